theorem dX8_init_0 : decode cX8_init 0 = .ok (.aload_n 0, 1) := by decide +kernel
theorem dX8_init_1 : decode cX8_init 1 = .ok (.invokespecial 1, 3) := by decide +kernel
theorem dX8_init_4 : decode cX8_init 4 = .ok (.aload_n 0, 1) := by decide +kernel
theorem dX8_init_5 : decode cX8_init 5 = .ok (.bipush 112, 2) := by decide +kernel
theorem dX8_init_7 : decode cX8_init 7 = .ok (.newarray .int, 2) := by decide +kernel
theorem dX8_init_9 : decode cX8_init 9 = .ok (.putfield 7, 3) := by decide +kernel
theorem dX8_init_12 : decode cX8_init 12 = .ok (.aload_n 0, 1) := by decide +kernel
theorem dX8_init_13 : decode cX8_init 13 = .ok (.sipush 224, 3) := by decide +kernel
theorem dX8_init_16 : decode cX8_init 16 = .ok (.newarray .int, 2) := by decide +kernel
theorem dX8_init_18 : decode cX8_init 18 = .ok (.putfield 13, 3) := by decide +kernel
theorem dX8_init_21 : decode cX8_init 21 = .ok (.aload_n 0, 1) := by decide +kernel
theorem dX8_init_22 : decode cX8_init 22 = .ok (.iconst 2, 1) := by decide +kernel
theorem dX8_init_23 : decode cX8_init 23 = .ok (.newarray .boolean, 2) := by decide +kernel
theorem dX8_init_25 : decode cX8_init 25 = .ok (.putfield 16, 3) := by decide +kernel
theorem dX8_init_28 : decode cX8_init 28 = .ok (.aload_n 0, 1) := by decide +kernel
theorem dX8_init_29 : decode cX8_init 29 = .ok (.bipush 12, 2) := by decide +kernel
theorem dX8_init_31 : decode cX8_init 31 = .ok (.newarray .int, 2) := by decide +kernel
theorem dX8_init_33 : decode cX8_init 33 = .ok (.putfield 20, 3) := by decide +kernel
theorem dX8_init_36 : decode cX8_init 36 = .ok (.aload_n 0, 1) := by decide +kernel
theorem dX8_init_37 : decode cX8_init 37 = .ok (.sipush 7776, 3) := by decide +kernel
theorem dX8_init_40 : decode cX8_init 40 = .ok (.newarray .int, 2) := by decide +kernel
theorem dX8_init_42 : decode cX8_init 42 = .ok (.putfield 23, 3) := by decide +kernel
theorem dX8_init_45 : decode cX8_init 45 = .ok (.aload_n 0, 1) := by decide +kernel
theorem dX8_init_46 : decode cX8_init 46 = .ok (.sipush 7776, 3) := by decide +kernel
theorem dX8_init_49 : decode cX8_init 49 = .ok (.newarray .boolean, 2) := by decide +kernel
theorem dX8_init_51 : decode cX8_init 51 = .ok (.putfield 26, 3) := by decide +kernel
theorem dX8_init_54 : decode cX8_init 54 = .ok (.aload_n 0, 1) := by decide +kernel
theorem dX8_init_55 : decode cX8_init 55 = .ok (.sipush 7776, 3) := by decide +kernel
theorem dX8_init_58 : decode cX8_init 58 = .ok (.newarray .int, 2) := by decide +kernel
theorem dX8_init_60 : decode cX8_init 60 = .ok (.putfield 29, 3) := by decide +kernel
theorem dX8_init_63 : decode cX8_init 63 = .ok (.aload_n 0, 1) := by decide +kernel
theorem dX8_init_64 : decode cX8_init 64 = .ok (.sipush 7776, 3) := by decide +kernel
theorem dX8_init_67 : decode cX8_init 67 = .ok (.newarray .int, 2) := by decide +kernel
theorem dX8_init_69 : decode cX8_init 69 = .ok (.putfield 32, 3) := by decide +kernel
theorem dX8_init_72 : decode cX8_init 72 = .ok (.aload_n 0, 1) := by decide +kernel
theorem dX8_init_73 : decode cX8_init 73 = .ok (.sipush 7776, 3) := by decide +kernel
theorem dX8_init_76 : decode cX8_init 76 = .ok (.newarray .int, 2) := by decide +kernel
theorem dX8_init_78 : decode cX8_init 78 = .ok (.putfield 35, 3) := by decide +kernel
theorem dX8_init_81 : decode cX8_init 81 = .ok (.aload_n 0, 1) := by decide +kernel
theorem dX8_init_82 : decode cX8_init 82 = .ok (.sipush 7776, 3) := by decide +kernel
theorem dX8_init_85 : decode cX8_init 85 = .ok (.newarray .int, 2) := by decide +kernel
theorem dX8_init_87 : decode cX8_init 87 = .ok (.putfield 38, 3) := by decide +kernel
theorem dX8_init_90 : decode cX8_init 90 = .ok (.aload_n 0, 1) := by decide +kernel
theorem dX8_init_91 : decode cX8_init 91 = .ok (.sipush 7776, 3) := by decide +kernel
theorem dX8_init_94 : decode cX8_init 94 = .ok (.newarray .boolean, 2) := by decide +kernel
theorem dX8_init_96 : decode cX8_init 96 = .ok (.putfield 41, 3) := by decide +kernel
theorem dX8_init_99 : decode cX8_init 99 = .ok (.aload_n 0, 1) := by decide +kernel
theorem dX8_init_100 : decode cX8_init 100 = .ok (.bipush 13, 2) := by decide +kernel
theorem dX8_init_102 : decode cX8_init 102 = .ok (.newarray .int, 2) := by decide +kernel
theorem dX8_init_104 : decode cX8_init 104 = .ok (.putfield 44, 3) := by decide +kernel
theorem dX8_init_107 : decode cX8_init 107 = .ok (.aload_n 0, 1) := by decide +kernel
theorem dX8_init_108 : decode cX8_init 108 = .ok (.bipush 13, 2) := by decide +kernel
theorem dX8_init_110 : decode cX8_init 110 = .ok (.newarray .int, 2) := by decide +kernel
theorem dX8_init_112 : decode cX8_init 112 = .ok (.putfield 47, 3) := by decide +kernel
theorem dX8_init_115 : decode cX8_init 115 = .ok (.aload_n 0, 1) := by decide +kernel
theorem dX8_init_116 : decode cX8_init 116 = .ok (.bipush 13, 2) := by decide +kernel
theorem dX8_init_118 : decode cX8_init 118 = .ok (.newarray .int, 2) := by decide +kernel
theorem dX8_init_120 : decode cX8_init 120 = .ok (.putfield 50, 3) := by decide +kernel
theorem dX8_init_123 : decode cX8_init 123 = .ok (.aload_n 0, 1) := by decide +kernel
theorem dX8_init_124 : decode cX8_init 124 = .ok (.bipush 13, 2) := by decide +kernel
theorem dX8_init_126 : decode cX8_init 126 = .ok (.newarray .long, 2) := by decide +kernel
theorem dX8_init_128 : decode cX8_init 128 = .ok (.putfield 53, 3) := by decide +kernel
theorem dX8_init_131 : decode cX8_init 131 = .ok (.aload_n 0, 1) := by decide +kernel
theorem dX8_init_132 : decode cX8_init 132 = .ok (.bipush 13, 2) := by decide +kernel
theorem dX8_init_134 : decode cX8_init 134 = .ok (.newarray .long, 2) := by decide +kernel
theorem dX8_init_136 : decode cX8_init 136 = .ok (.putfield 57, 3) := by decide +kernel
theorem dX8_init_139 : decode cX8_init 139 = .ok (.aload_n 0, 1) := by decide +kernel
theorem dX8_init_140 : decode cX8_init 140 = .ok (.sipush 1400, 3) := by decide +kernel
theorem dX8_init_143 : decode cX8_init 143 = .ok (.newarray .int, 2) := by decide +kernel
theorem dX8_init_145 : decode cX8_init 145 = .ok (.putfield 60, 3) := by decide +kernel
theorem dX8_init_148 : decode cX8_init 148 = .ok (.aload_n 0, 1) := by decide +kernel
theorem dX8_init_149 : decode cX8_init 149 = .ok (.sipush 1400, 3) := by decide +kernel
theorem dX8_init_152 : decode cX8_init 152 = .ok (.newarray .int, 2) := by decide +kernel
theorem dX8_init_154 : decode cX8_init 154 = .ok (.putfield 63, 3) := by decide +kernel
theorem dX8_init_157 : decode cX8_init 157 = .ok (.aload_n 0, 1) := by decide +kernel
theorem dX8_init_158 : decode cX8_init 158 = .ok (.sipush 1400, 3) := by decide +kernel
theorem dX8_init_161 : decode cX8_init 161 = .ok (.newarray .int, 2) := by decide +kernel
theorem dX8_init_163 : decode cX8_init 163 = .ok (.putfield 66, 3) := by decide +kernel
theorem dX8_init_166 : decode cX8_init 166 = .ok (.aload_n 0, 1) := by decide +kernel
theorem dX8_init_167 : decode cX8_init 167 = .ok (.sipush 1400, 3) := by decide +kernel
theorem dX8_init_170 : decode cX8_init 170 = .ok (.newarray .int, 2) := by decide +kernel
theorem dX8_init_172 : decode cX8_init 172 = .ok (.putfield 69, 3) := by decide +kernel
theorem dX8_init_175 : decode cX8_init 175 = .ok (.aload_n 0, 1) := by decide +kernel
theorem dX8_init_176 : decode cX8_init 176 = .ok (.sipush 1400, 3) := by decide +kernel
theorem dX8_init_179 : decode cX8_init 179 = .ok (.newarray .int, 2) := by decide +kernel
theorem dX8_init_181 : decode cX8_init 181 = .ok (.putfield 72, 3) := by decide +kernel
theorem dX8_init_184 : decode cX8_init 184 = .ok (.aload_n 0, 1) := by decide +kernel
theorem dX8_init_185 : decode cX8_init 185 = .ok (.sipush 8400, 3) := by decide +kernel
theorem dX8_init_188 : decode cX8_init 188 = .ok (.newarray .int, 2) := by decide +kernel
theorem dX8_init_190 : decode cX8_init 190 = .ok (.putfield 75, 3) := by decide +kernel
theorem dX8_init_193 : decode cX8_init 193 = .ok (.aload_n 0, 1) := by decide +kernel
theorem dX8_init_194 : decode cX8_init 194 = .ok (.bipush 96, 2) := by decide +kernel
theorem dX8_init_196 : decode cX8_init 196 = .ok (.newarray .int, 2) := by decide +kernel
theorem dX8_init_198 : decode cX8_init 198 = .ok (.putfield 78, 3) := by decide +kernel
theorem dX8_init_201 : decode cX8_init 201 = .ok (.aload_n 0, 1) := by decide +kernel
theorem dX8_init_202 : decode cX8_init 202 = .ok (.bipush 96, 2) := by decide +kernel
theorem dX8_init_204 : decode cX8_init 204 = .ok (.newarray .int, 2) := by decide +kernel
theorem dX8_init_206 : decode cX8_init 206 = .ok (.putfield 81, 3) := by decide +kernel
theorem dX8_init_209 : decode cX8_init 209 = .ok (.aload_n 0, 1) := by decide +kernel
theorem dX8_init_210 : decode cX8_init 210 = .ok (.bipush 96, 2) := by decide +kernel
theorem dX8_init_212 : decode cX8_init 212 = .ok (.newarray .int, 2) := by decide +kernel
theorem dX8_init_214 : decode cX8_init 214 = .ok (.putfield 84, 3) := by decide +kernel
theorem dX8_init_217 : decode cX8_init 217 = .ok (.iconst 0, 1) := by decide +kernel
theorem dX8_init_218 : decode cX8_init 218 = .ok (.istore_n 1, 1) := by decide +kernel
theorem dX8_init_219 : decode cX8_init 219 = .ok (.iload_n 1, 1) := by decide +kernel
theorem dX8_init_220 : decode cX8_init 220 = .ok (.bipush 6, 2) := by decide +kernel
theorem dX8_init_222 : decode cX8_init 222 = .ok (.if_icmp .ge 20, 3) := by decide +kernel
theorem dX8_init_225 : decode cX8_init 225 = .ok (.aload_n 0, 1) := by decide +kernel
theorem dX8_init_226 : decode cX8_init 226 = .ok (.getfield 7, 3) := by decide +kernel
theorem dX8_init_229 : decode cX8_init 229 = .ok (.iconst 0, 1) := by decide +kernel
theorem dX8_init_230 : decode cX8_init 230 = .ok (.iload_n 1, 1) := by decide +kernel
theorem dX8_init_231 : decode cX8_init 231 = .ok (.iadd, 1) := by decide +kernel
theorem dX8_init_232 : decode cX8_init 232 = .ok (.invokestatic 87, 3) := by decide +kernel
theorem dX8_init_235 : decode cX8_init 235 = .ok (.iastore, 1) := by decide +kernel
theorem dX8_init_236 : decode cX8_init 236 = .ok (.iinc 1 1, 3) := by decide +kernel
theorem dX8_init_239 : decode cX8_init 239 = .ok (.goto (-20), 3) := by decide +kernel
theorem dX8_init_242 : decode cX8_init 242 = .ok (.return_, 1) := by decide +kernel
theorem dX8_in_0 : decode cX8_in 0 = .ok (.iload_n 0, 1) := by decide +kernel
theorem dX8_in_1 : decode cX8_in 1 = .ok (.iload_n 1, 1) := by decide +kernel
theorem dX8_in_2 : decode cX8_in 2 = .ok (.if_icmp .lt 12, 3) := by decide +kernel
theorem dX8_in_5 : decode cX8_in 5 = .ok (.iload_n 0, 1) := by decide +kernel
theorem dX8_in_6 : decode cX8_in 6 = .ok (.iload_n 2, 1) := by decide +kernel
theorem dX8_in_7 : decode cX8_in 7 = .ok (.if_icmp .gt 7, 3) := by decide +kernel
theorem dX8_in_10 : decode cX8_in 10 = .ok (.iconst 1, 1) := by decide +kernel
theorem dX8_in_11 : decode cX8_in 11 = .ok (.goto 4, 3) := by decide +kernel
theorem dX8_in_14 : decode cX8_in 14 = .ok (.iconst 0, 1) := by decide +kernel
theorem dX8_in_15 : decode cX8_in 15 = .ok (.ireturn, 1) := by decide +kernel
theorem dX8_isSlot_0 : decode cX8_isSlot 0 = .ok (.iload_n 0, 1) := by decide +kernel
theorem dX8_isSlot_1 : decode cX8_isSlot 1 = .ok (.iconst 0, 1) := by decide +kernel
theorem dX8_isSlot_2 : decode cX8_isSlot 2 = .ok (.iconst 5, 1) := by decide +kernel
theorem dX8_isSlot_3 : decode cX8_isSlot 3 = .ok (.invokestatic 91, 3) := by decide +kernel
theorem dX8_isSlot_6 : decode cX8_isSlot 6 = .ok (.ireturn, 1) := by decide +kernel
theorem dX8_isWord_0 : decode cX8_isWord 0 = .ok (.iload_n 0, 1) := by decide +kernel
theorem dX8_isWord_1 : decode cX8_isWord 1 = .ok (.iconst 0, 1) := by decide +kernel
theorem dX8_isWord_2 : decode cX8_isWord 2 = .ok (.iconst 3, 1) := by decide +kernel
theorem dX8_isWord_3 : decode cX8_isWord 3 = .ok (.invokestatic 91, 3) := by decide +kernel
theorem dX8_isWord_6 : decode cX8_isWord 6 = .ok (.ireturn, 1) := by decide +kernel
theorem dX8_power_0 : decode cX8_power 0 = .ok (.iconst 1, 1) := by decide +kernel
theorem dX8_power_1 : decode cX8_power 1 = .ok (.istore_n 1, 1) := by decide +kernel
theorem dX8_power_2 : decode cX8_power 2 = .ok (.iconst 0, 1) := by decide +kernel
theorem dX8_power_3 : decode cX8_power 3 = .ok (.istore_n 2, 1) := by decide +kernel
theorem dX8_power_4 : decode cX8_power 4 = .ok (.iload_n 2, 1) := by decide +kernel
theorem dX8_power_5 : decode cX8_power 5 = .ok (.iload_n 0, 1) := by decide +kernel
theorem dX8_power_6 : decode cX8_power 6 = .ok (.if_icmp .ge 14, 3) := by decide +kernel
theorem dX8_power_9 : decode cX8_power 9 = .ok (.iload_n 1, 1) := by decide +kernel
theorem dX8_power_10 : decode cX8_power 10 = .ok (.bipush 6, 2) := by decide +kernel
theorem dX8_power_12 : decode cX8_power 12 = .ok (.imul, 1) := by decide +kernel
theorem dX8_power_13 : decode cX8_power 13 = .ok (.istore_n 1, 1) := by decide +kernel
theorem dX8_power_14 : decode cX8_power 14 = .ok (.iinc 2 1, 3) := by decide +kernel
theorem dX8_power_17 : decode cX8_power 17 = .ok (.goto (-13), 3) := by decide +kernel
theorem dX8_power_20 : decode cX8_power 20 = .ok (.iload_n 1, 1) := by decide +kernel
theorem dX8_power_21 : decode cX8_power 21 = .ok (.ireturn, 1) := by decide +kernel
theorem dX8_to_0 : decode cX8_to 0 = .ok (.iload_n 0, 1) := by decide +kernel
theorem dX8_to_1 : decode cX8_to 1 = .ok (.iload_n 1, 1) := by decide +kernel
theorem dX8_to_2 : decode cX8_to 2 = .ok (.invokestatic 95, 3) := by decide +kernel
theorem dX8_to_5 : decode cX8_to 5 = .ok (.idiv, 1) := by decide +kernel
theorem dX8_to_6 : decode cX8_to 6 = .ok (.bipush 6, 2) := by decide +kernel
theorem dX8_to_8 : decode cX8_to 8 = .ok (.irem, 1) := by decide +kernel
theorem dX8_to_9 : decode cX8_to 9 = .ok (.iconst 1, 1) := by decide +kernel
theorem dX8_to_10 : decode cX8_to 10 = .ok (.isub, 1) := by decide +kernel
theorem dX8_to_11 : decode cX8_to 11 = .ok (.ireturn, 1) := by decide +kernel
theorem dX8_put_0 : decode cX8_put 0 = .ok (.iload_n 0, 1) := by decide +kernel
theorem dX8_put_1 : decode cX8_put 1 = .ok (.invokestatic 95, 3) := by decide +kernel
theorem dX8_put_4 : decode cX8_put 4 = .ok (.iload_n 1, 1) := by decide +kernel
theorem dX8_put_5 : decode cX8_put 5 = .ok (.iconst 1, 1) := by decide +kernel
theorem dX8_put_6 : decode cX8_put 6 = .ok (.iadd, 1) := by decide +kernel
theorem dX8_put_7 : decode cX8_put 7 = .ok (.imul, 1) := by decide +kernel
theorem dX8_put_8 : decode cX8_put 8 = .ok (.ireturn, 1) := by decide +kernel
theorem dX8_same_0 : decode cX8_same 0 = .ok (.iconst 0, 1) := by decide +kernel
theorem dX8_same_1 : decode cX8_same 1 = .ok (.istore_n 0, 1) := by decide +kernel
theorem dX8_same_2 : decode cX8_same 2 = .ok (.iconst 0, 1) := by decide +kernel
theorem dX8_same_3 : decode cX8_same 3 = .ok (.istore_n 1, 1) := by decide +kernel
theorem dX8_same_4 : decode cX8_same 4 = .ok (.iload_n 1, 1) := by decide +kernel
theorem dX8_same_5 : decode cX8_same 5 = .ok (.iconst 5, 1) := by decide +kernel
theorem dX8_same_6 : decode cX8_same 6 = .ok (.if_icmp .ge 17, 3) := by decide +kernel
theorem dX8_same_9 : decode cX8_same 9 = .ok (.iload_n 0, 1) := by decide +kernel
theorem dX8_same_10 : decode cX8_same 10 = .ok (.iload_n 1, 1) := by decide +kernel
theorem dX8_same_11 : decode cX8_same 11 = .ok (.iload_n 1, 1) := by decide +kernel
theorem dX8_same_12 : decode cX8_same 12 = .ok (.invokestatic 99, 3) := by decide +kernel
theorem dX8_same_15 : decode cX8_same 15 = .ok (.iadd, 1) := by decide +kernel
theorem dX8_same_16 : decode cX8_same 16 = .ok (.istore_n 0, 1) := by decide +kernel
theorem dX8_same_17 : decode cX8_same 17 = .ok (.iinc 1 1, 3) := by decide +kernel
theorem dX8_same_20 : decode cX8_same 20 = .ok (.goto (-16), 3) := by decide +kernel
theorem dX8_same_23 : decode cX8_same 23 = .ok (.iload_n 0, 1) := by decide +kernel
theorem dX8_same_24 : decode cX8_same 24 = .ok (.ireturn, 1) := by decide +kernel
theorem dX8_isMap_0 : decode cX8_isMap 0 = .ok (.iload_n 0, 1) := by decide +kernel
theorem dX8_isMap_1 : decode cX8_isMap 1 = .ok (.iconst 0, 1) := by decide +kernel
theorem dX8_isMap_2 : decode cX8_isMap 2 = .ok (.sipush 7775, 3) := by decide +kernel
theorem dX8_isMap_5 : decode cX8_isMap 5 = .ok (.invokestatic 91, 3) := by decide +kernel
theorem dX8_isMap_8 : decode cX8_isMap 8 = .ok (.ifCond .ne 5, 3) := by decide +kernel
theorem dX8_isMap_11 : decode cX8_isMap 11 = .ok (.iconst 0, 1) := by decide +kernel
theorem dX8_isMap_12 : decode cX8_isMap 12 = .ok (.ireturn, 1) := by decide +kernel
theorem dX8_isMap_13 : decode cX8_isMap 13 = .ok (.iconst 0, 1) := by decide +kernel
theorem dX8_isMap_14 : decode cX8_isMap 14 = .ok (.istore_n 1, 1) := by decide +kernel
theorem dX8_isMap_15 : decode cX8_isMap 15 = .ok (.iconst 1, 1) := by decide +kernel
theorem dX8_isMap_16 : decode cX8_isMap 16 = .ok (.istore_n 2, 1) := by decide +kernel
theorem dX8_isMap_17 : decode cX8_isMap 17 = .ok (.iconst 0, 1) := by decide +kernel
theorem dX8_isMap_18 : decode cX8_isMap 18 = .ok (.istore_n 3, 1) := by decide +kernel
theorem dX8_isMap_19 : decode cX8_isMap 19 = .ok (.iload_n 3, 1) := by decide +kernel
theorem dX8_isMap_20 : decode cX8_isMap 20 = .ok (.iconst 5, 1) := by decide +kernel
theorem dX8_isMap_21 : decode cX8_isMap 21 = .ok (.if_icmp .ge 56, 3) := by decide +kernel
theorem dX8_isMap_24 : decode cX8_isMap 24 = .ok (.iload_n 0, 1) := by decide +kernel
theorem dX8_isMap_25 : decode cX8_isMap 25 = .ok (.iload_n 3, 1) := by decide +kernel
theorem dX8_isMap_26 : decode cX8_isMap 26 = .ok (.invokestatic 103, 3) := by decide +kernel
theorem dX8_isMap_29 : decode cX8_isMap 29 = .ok (.istore 4, 2) := by decide +kernel
theorem dX8_isMap_31 : decode cX8_isMap 31 = .ok (.iload_n 2, 1) := by decide +kernel
theorem dX8_isMap_32 : decode cX8_isMap 32 = .ok (.ifCond .eq 21, 3) := by decide +kernel
theorem dX8_isMap_35 : decode cX8_isMap 35 = .ok (.iload 4, 2) := by decide +kernel
theorem dX8_isMap_37 : decode cX8_isMap 37 = .ok (.ifCond .lt 12, 3) := by decide +kernel
theorem dX8_isMap_40 : decode cX8_isMap 40 = .ok (.iload_n 1, 1) := by decide +kernel
theorem dX8_isMap_41 : decode cX8_isMap 41 = .ok (.iload 4, 2) := by decide +kernel
theorem dX8_isMap_43 : decode cX8_isMap 43 = .ok (.ishr, 1) := by decide +kernel
theorem dX8_isMap_44 : decode cX8_isMap 44 = .ok (.iconst 1, 1) := by decide +kernel
theorem dX8_isMap_45 : decode cX8_isMap 45 = .ok (.iand, 1) := by decide +kernel
theorem dX8_isMap_46 : decode cX8_isMap 46 = .ok (.ifCond .ne 7, 3) := by decide +kernel
theorem dX8_isMap_49 : decode cX8_isMap 49 = .ok (.iconst 1, 1) := by decide +kernel
theorem dX8_isMap_50 : decode cX8_isMap 50 = .ok (.goto 4, 3) := by decide +kernel
theorem dX8_isMap_53 : decode cX8_isMap 53 = .ok (.iconst 0, 1) := by decide +kernel
theorem dX8_isMap_54 : decode cX8_isMap 54 = .ok (.istore_n 2, 1) := by decide +kernel
theorem dX8_isMap_55 : decode cX8_isMap 55 = .ok (.iload_n 1, 1) := by decide +kernel
theorem dX8_isMap_56 : decode cX8_isMap 56 = .ok (.iload 4, 2) := by decide +kernel
theorem dX8_isMap_58 : decode cX8_isMap 58 = .ok (.ifCond .ge 7, 3) := by decide +kernel
theorem dX8_isMap_61 : decode cX8_isMap 61 = .ok (.iconst 0, 1) := by decide +kernel
theorem dX8_isMap_62 : decode cX8_isMap 62 = .ok (.goto 7, 3) := by decide +kernel
theorem dX8_isMap_65 : decode cX8_isMap 65 = .ok (.iconst 1, 1) := by decide +kernel
theorem dX8_isMap_66 : decode cX8_isMap 66 = .ok (.iload 4, 2) := by decide +kernel
theorem dX8_isMap_68 : decode cX8_isMap 68 = .ok (.ishl, 1) := by decide +kernel
theorem dX8_isMap_69 : decode cX8_isMap 69 = .ok (.ior, 1) := by decide +kernel
theorem dX8_isMap_70 : decode cX8_isMap 70 = .ok (.istore_n 1, 1) := by decide +kernel
theorem dX8_isMap_71 : decode cX8_isMap 71 = .ok (.iinc 3 1, 3) := by decide +kernel
theorem dX8_isMap_74 : decode cX8_isMap 74 = .ok (.goto (-55), 3) := by decide +kernel
theorem dX8_isMap_77 : decode cX8_isMap 77 = .ok (.iload_n 2, 1) := by decide +kernel
theorem dX8_isMap_78 : decode cX8_isMap 78 = .ok (.ireturn, 1) := by decide +kernel
theorem dX8_rank_0 : decode cX8_rank 0 = .ok (.iconst 0, 1) := by decide +kernel
theorem dX8_rank_1 : decode cX8_rank 1 = .ok (.istore_n 1, 1) := by decide +kernel
theorem dX8_rank_2 : decode cX8_rank 2 = .ok (.iconst 0, 1) := by decide +kernel
theorem dX8_rank_3 : decode cX8_rank 3 = .ok (.istore_n 2, 1) := by decide +kernel
theorem dX8_rank_4 : decode cX8_rank 4 = .ok (.iload_n 2, 1) := by decide +kernel
theorem dX8_rank_5 : decode cX8_rank 5 = .ok (.iconst 5, 1) := by decide +kernel
theorem dX8_rank_6 : decode cX8_rank 6 = .ok (.if_icmp .ge 25, 3) := by decide +kernel
theorem dX8_rank_9 : decode cX8_rank 9 = .ok (.iload_n 1, 1) := by decide +kernel
theorem dX8_rank_10 : decode cX8_rank 10 = .ok (.iload_n 0, 1) := by decide +kernel
theorem dX8_rank_11 : decode cX8_rank 11 = .ok (.iload_n 2, 1) := by decide +kernel
theorem dX8_rank_12 : decode cX8_rank 12 = .ok (.invokestatic 103, 3) := by decide +kernel
theorem dX8_rank_15 : decode cX8_rank 15 = .ok (.ifCond .ge 7, 3) := by decide +kernel
theorem dX8_rank_18 : decode cX8_rank 18 = .ok (.iconst 0, 1) := by decide +kernel
theorem dX8_rank_19 : decode cX8_rank 19 = .ok (.goto 4, 3) := by decide +kernel
theorem dX8_rank_22 : decode cX8_rank 22 = .ok (.iconst 1, 1) := by decide +kernel
theorem dX8_rank_23 : decode cX8_rank 23 = .ok (.iadd, 1) := by decide +kernel
theorem dX8_rank_24 : decode cX8_rank 24 = .ok (.istore_n 1, 1) := by decide +kernel
theorem dX8_rank_25 : decode cX8_rank 25 = .ok (.iinc 2 1, 3) := by decide +kernel
theorem dX8_rank_28 : decode cX8_rank 28 = .ok (.goto (-24), 3) := by decide +kernel
theorem dX8_rank_31 : decode cX8_rank 31 = .ok (.iload_n 1, 1) := by decide +kernel
theorem dX8_rank_32 : decode cX8_rank 32 = .ok (.ireturn, 1) := by decide +kernel
theorem dX8_isIdempotent_0 : decode cX8_isIdempotent 0 = .ok (.iconst 1, 1) := by decide +kernel
theorem dX8_isIdempotent_1 : decode cX8_isIdempotent 1 = .ok (.istore_n 1, 1) := by decide +kernel
theorem dX8_isIdempotent_2 : decode cX8_isIdempotent 2 = .ok (.iconst 0, 1) := by decide +kernel
theorem dX8_isIdempotent_3 : decode cX8_isIdempotent 3 = .ok (.istore_n 2, 1) := by decide +kernel
theorem dX8_isIdempotent_4 : decode cX8_isIdempotent 4 = .ok (.iload_n 2, 1) := by decide +kernel
theorem dX8_isIdempotent_5 : decode cX8_isIdempotent 5 = .ok (.iconst 5, 1) := by decide +kernel
theorem dX8_isIdempotent_6 : decode cX8_isIdempotent 6 = .ok (.if_icmp .ge 36, 3) := by decide +kernel
theorem dX8_isIdempotent_9 : decode cX8_isIdempotent 9 = .ok (.iload_n 1, 1) := by decide +kernel
theorem dX8_isIdempotent_10 : decode cX8_isIdempotent 10 = .ok (.ifCond .eq 24, 3) := by decide +kernel
theorem dX8_isIdempotent_13 : decode cX8_isIdempotent 13 = .ok (.iload_n 0, 1) := by decide +kernel
theorem dX8_isIdempotent_14 : decode cX8_isIdempotent 14 = .ok (.iload_n 2, 1) := by decide +kernel
theorem dX8_isIdempotent_15 : decode cX8_isIdempotent 15 = .ok (.invokestatic 103, 3) := by decide +kernel
theorem dX8_isIdempotent_18 : decode cX8_isIdempotent 18 = .ok (.ifCond .lt 12, 3) := by decide +kernel
theorem dX8_isIdempotent_21 : decode cX8_isIdempotent 21 = .ok (.iload_n 0, 1) := by decide +kernel
theorem dX8_isIdempotent_22 : decode cX8_isIdempotent 22 = .ok (.iload_n 2, 1) := by decide +kernel
theorem dX8_isIdempotent_23 : decode cX8_isIdempotent 23 = .ok (.invokestatic 103, 3) := by decide +kernel
theorem dX8_isIdempotent_26 : decode cX8_isIdempotent 26 = .ok (.iload_n 2, 1) := by decide +kernel
theorem dX8_isIdempotent_27 : decode cX8_isIdempotent 27 = .ok (.if_icmp .ne 7, 3) := by decide +kernel
theorem dX8_isIdempotent_30 : decode cX8_isIdempotent 30 = .ok (.iconst 1, 1) := by decide +kernel
theorem dX8_isIdempotent_31 : decode cX8_isIdempotent 31 = .ok (.goto 4, 3) := by decide +kernel
theorem dX8_isIdempotent_34 : decode cX8_isIdempotent 34 = .ok (.iconst 0, 1) := by decide +kernel
theorem dX8_isIdempotent_35 : decode cX8_isIdempotent 35 = .ok (.istore_n 1, 1) := by decide +kernel
theorem dX8_isIdempotent_36 : decode cX8_isIdempotent 36 = .ok (.iinc 2 1, 3) := by decide +kernel
theorem dX8_isIdempotent_39 : decode cX8_isIdempotent 39 = .ok (.goto (-35), 3) := by decide +kernel
theorem dX8_isIdempotent_42 : decode cX8_isIdempotent 42 = .ok (.iload_n 1, 1) := by decide +kernel
theorem dX8_isIdempotent_43 : decode cX8_isIdempotent 43 = .ok (.ireturn, 1) := by decide +kernel
theorem dX8_then_0 : decode cX8_then 0 = .ok (.iconst 0, 1) := by decide +kernel
theorem dX8_then_1 : decode cX8_then 1 = .ok (.istore_n 2, 1) := by decide +kernel
theorem dX8_then_2 : decode cX8_then 2 = .ok (.iconst 0, 1) := by decide +kernel
theorem dX8_then_3 : decode cX8_then 3 = .ok (.istore_n 3, 1) := by decide +kernel
theorem dX8_then_4 : decode cX8_then 4 = .ok (.iload_n 3, 1) := by decide +kernel
theorem dX8_then_5 : decode cX8_then 5 = .ok (.iconst 5, 1) := by decide +kernel
theorem dX8_then_6 : decode cX8_then 6 = .ok (.if_icmp .ge 43, 3) := by decide +kernel
theorem dX8_then_9 : decode cX8_then 9 = .ok (.iload_n 0, 1) := by decide +kernel
theorem dX8_then_10 : decode cX8_then 10 = .ok (.iload_n 3, 1) := by decide +kernel
theorem dX8_then_11 : decode cX8_then 11 = .ok (.invokestatic 103, 3) := by decide +kernel
theorem dX8_then_14 : decode cX8_then 14 = .ok (.istore 4, 2) := by decide +kernel
theorem dX8_then_16 : decode cX8_then 16 = .ok (.iload 4, 2) := by decide +kernel
theorem dX8_then_18 : decode cX8_then 18 = .ok (.ifCond .lt 25, 3) := by decide +kernel
theorem dX8_then_21 : decode cX8_then 21 = .ok (.iload_n 1, 1) := by decide +kernel
theorem dX8_then_22 : decode cX8_then 22 = .ok (.iload 4, 2) := by decide +kernel
theorem dX8_then_24 : decode cX8_then 24 = .ok (.invokestatic 103, 3) := by decide +kernel
theorem dX8_then_27 : decode cX8_then 27 = .ok (.ifCond .lt 16, 3) := by decide +kernel
theorem dX8_then_30 : decode cX8_then 30 = .ok (.iload_n 2, 1) := by decide +kernel
theorem dX8_then_31 : decode cX8_then 31 = .ok (.iload_n 3, 1) := by decide +kernel
theorem dX8_then_32 : decode cX8_then 32 = .ok (.iload_n 1, 1) := by decide +kernel
theorem dX8_then_33 : decode cX8_then 33 = .ok (.iload 4, 2) := by decide +kernel
theorem dX8_then_35 : decode cX8_then 35 = .ok (.invokestatic 103, 3) := by decide +kernel
theorem dX8_then_38 : decode cX8_then 38 = .ok (.invokestatic 99, 3) := by decide +kernel
theorem dX8_then_41 : decode cX8_then 41 = .ok (.iadd, 1) := by decide +kernel
theorem dX8_then_42 : decode cX8_then 42 = .ok (.istore_n 2, 1) := by decide +kernel
theorem dX8_then_43 : decode cX8_then 43 = .ok (.iinc 3 1, 3) := by decide +kernel
theorem dX8_then_46 : decode cX8_then 46 = .ok (.goto (-42), 3) := by decide +kernel
theorem dX8_then_49 : decode cX8_then 49 = .ok (.iload_n 2, 1) := by decide +kernel
theorem dX8_then_50 : decode cX8_then 50 = .ok (.ireturn, 1) := by decide +kernel
theorem dX8_inverse_0 : decode cX8_inverse 0 = .ok (.iconst 0, 1) := by decide +kernel
theorem dX8_inverse_1 : decode cX8_inverse 1 = .ok (.istore_n 1, 1) := by decide +kernel
theorem dX8_inverse_2 : decode cX8_inverse 2 = .ok (.iconst 0, 1) := by decide +kernel
theorem dX8_inverse_3 : decode cX8_inverse 3 = .ok (.istore_n 2, 1) := by decide +kernel
theorem dX8_inverse_4 : decode cX8_inverse 4 = .ok (.iload_n 2, 1) := by decide +kernel
theorem dX8_inverse_5 : decode cX8_inverse 5 = .ok (.iconst 5, 1) := by decide +kernel
theorem dX8_inverse_6 : decode cX8_inverse 6 = .ok (.if_icmp .ge 33, 3) := by decide +kernel
theorem dX8_inverse_9 : decode cX8_inverse 9 = .ok (.iload_n 1, 1) := by decide +kernel
theorem dX8_inverse_10 : decode cX8_inverse 10 = .ok (.iload_n 0, 1) := by decide +kernel
theorem dX8_inverse_11 : decode cX8_inverse 11 = .ok (.iload_n 2, 1) := by decide +kernel
theorem dX8_inverse_12 : decode cX8_inverse 12 = .ok (.invokestatic 103, 3) := by decide +kernel
theorem dX8_inverse_15 : decode cX8_inverse 15 = .ok (.ifCond .ge 7, 3) := by decide +kernel
theorem dX8_inverse_18 : decode cX8_inverse 18 = .ok (.iconst 0, 1) := by decide +kernel
theorem dX8_inverse_19 : decode cX8_inverse 19 = .ok (.goto 12, 3) := by decide +kernel
theorem dX8_inverse_22 : decode cX8_inverse 22 = .ok (.iload_n 0, 1) := by decide +kernel
theorem dX8_inverse_23 : decode cX8_inverse 23 = .ok (.iload_n 2, 1) := by decide +kernel
theorem dX8_inverse_24 : decode cX8_inverse 24 = .ok (.invokestatic 103, 3) := by decide +kernel
theorem dX8_inverse_27 : decode cX8_inverse 27 = .ok (.iload_n 2, 1) := by decide +kernel
theorem dX8_inverse_28 : decode cX8_inverse 28 = .ok (.invokestatic 99, 3) := by decide +kernel
theorem dX8_inverse_31 : decode cX8_inverse 31 = .ok (.iadd, 1) := by decide +kernel
theorem dX8_inverse_32 : decode cX8_inverse 32 = .ok (.istore_n 1, 1) := by decide +kernel
theorem dX8_inverse_33 : decode cX8_inverse 33 = .ok (.iinc 2 1, 3) := by decide +kernel
theorem dX8_inverse_36 : decode cX8_inverse 36 = .ok (.goto (-32), 3) := by decide +kernel
theorem dX8_inverse_39 : decode cX8_inverse 39 = .ok (.iload_n 1, 1) := by decide +kernel
theorem dX8_inverse_40 : decode cX8_inverse 40 = .ok (.ireturn, 1) := by decide +kernel
theorem dX8_dom_0 : decode cX8_dom 0 = .ok (.iconst 0, 1) := by decide +kernel
theorem dX8_dom_1 : decode cX8_dom 1 = .ok (.istore_n 1, 1) := by decide +kernel
theorem dX8_dom_2 : decode cX8_dom 2 = .ok (.iconst 0, 1) := by decide +kernel
theorem dX8_dom_3 : decode cX8_dom 3 = .ok (.istore_n 2, 1) := by decide +kernel
theorem dX8_dom_4 : decode cX8_dom 4 = .ok (.iload_n 2, 1) := by decide +kernel
theorem dX8_dom_5 : decode cX8_dom 5 = .ok (.iconst 5, 1) := by decide +kernel
theorem dX8_dom_6 : decode cX8_dom 6 = .ok (.if_icmp .ge 29, 3) := by decide +kernel
theorem dX8_dom_9 : decode cX8_dom 9 = .ok (.iload_n 1, 1) := by decide +kernel
theorem dX8_dom_10 : decode cX8_dom 10 = .ok (.iload_n 0, 1) := by decide +kernel
theorem dX8_dom_11 : decode cX8_dom 11 = .ok (.iload_n 2, 1) := by decide +kernel
theorem dX8_dom_12 : decode cX8_dom 12 = .ok (.invokestatic 103, 3) := by decide +kernel
theorem dX8_dom_15 : decode cX8_dom 15 = .ok (.ifCond .ge 7, 3) := by decide +kernel
theorem dX8_dom_18 : decode cX8_dom 18 = .ok (.iconst 0, 1) := by decide +kernel
theorem dX8_dom_19 : decode cX8_dom 19 = .ok (.goto 8, 3) := by decide +kernel
theorem dX8_dom_22 : decode cX8_dom 22 = .ok (.iload_n 2, 1) := by decide +kernel
theorem dX8_dom_23 : decode cX8_dom 23 = .ok (.iload_n 2, 1) := by decide +kernel
theorem dX8_dom_24 : decode cX8_dom 24 = .ok (.invokestatic 99, 3) := by decide +kernel
theorem dX8_dom_27 : decode cX8_dom 27 = .ok (.iadd, 1) := by decide +kernel
theorem dX8_dom_28 : decode cX8_dom 28 = .ok (.istore_n 1, 1) := by decide +kernel
theorem dX8_dom_29 : decode cX8_dom 29 = .ok (.iinc 2 1, 3) := by decide +kernel
theorem dX8_dom_32 : decode cX8_dom 32 = .ok (.goto (-28), 3) := by decide +kernel
theorem dX8_dom_35 : decode cX8_dom 35 = .ok (.iload_n 1, 1) := by decide +kernel
theorem dX8_dom_36 : decode cX8_dom 36 = .ok (.ireturn, 1) := by decide +kernel
theorem dX8_ran_0 : decode cX8_ran 0 = .ok (.iload_n 0, 1) := by decide +kernel
theorem dX8_ran_1 : decode cX8_ran 1 = .ok (.invokestatic 106, 3) := by decide +kernel
theorem dX8_ran_4 : decode cX8_ran 4 = .ok (.invokestatic 109, 3) := by decide +kernel
theorem dX8_ran_7 : decode cX8_ran 7 = .ok (.ireturn, 1) := by decide +kernel
theorem dX8_isBelow_0 : decode cX8_isBelow 0 = .ok (.iconst 1, 1) := by decide +kernel
theorem dX8_isBelow_1 : decode cX8_isBelow 1 = .ok (.istore_n 2, 1) := by decide +kernel
theorem dX8_isBelow_2 : decode cX8_isBelow 2 = .ok (.iconst 0, 1) := by decide +kernel
theorem dX8_isBelow_3 : decode cX8_isBelow 3 = .ok (.istore_n 3, 1) := by decide +kernel
theorem dX8_isBelow_4 : decode cX8_isBelow 4 = .ok (.iload_n 3, 1) := by decide +kernel
theorem dX8_isBelow_5 : decode cX8_isBelow 5 = .ok (.iconst 5, 1) := by decide +kernel
theorem dX8_isBelow_6 : decode cX8_isBelow 6 = .ok (.if_icmp .ge 40, 3) := by decide +kernel
theorem dX8_isBelow_9 : decode cX8_isBelow 9 = .ok (.iload_n 2, 1) := by decide +kernel
theorem dX8_isBelow_10 : decode cX8_isBelow 10 = .ok (.ifCond .eq 28, 3) := by decide +kernel
theorem dX8_isBelow_13 : decode cX8_isBelow 13 = .ok (.iload_n 0, 1) := by decide +kernel
theorem dX8_isBelow_14 : decode cX8_isBelow 14 = .ok (.iload_n 3, 1) := by decide +kernel
theorem dX8_isBelow_15 : decode cX8_isBelow 15 = .ok (.invokestatic 103, 3) := by decide +kernel
theorem dX8_isBelow_18 : decode cX8_isBelow 18 = .ok (.ifCond .lt 16, 3) := by decide +kernel
theorem dX8_isBelow_21 : decode cX8_isBelow 21 = .ok (.iload_n 0, 1) := by decide +kernel
theorem dX8_isBelow_22 : decode cX8_isBelow 22 = .ok (.iload_n 3, 1) := by decide +kernel
theorem dX8_isBelow_23 : decode cX8_isBelow 23 = .ok (.invokestatic 103, 3) := by decide +kernel
theorem dX8_isBelow_26 : decode cX8_isBelow 26 = .ok (.iload_n 1, 1) := by decide +kernel
theorem dX8_isBelow_27 : decode cX8_isBelow 27 = .ok (.iload_n 3, 1) := by decide +kernel
theorem dX8_isBelow_28 : decode cX8_isBelow 28 = .ok (.invokestatic 103, 3) := by decide +kernel
theorem dX8_isBelow_31 : decode cX8_isBelow 31 = .ok (.if_icmp .ne 7, 3) := by decide +kernel
theorem dX8_isBelow_34 : decode cX8_isBelow 34 = .ok (.iconst 1, 1) := by decide +kernel
theorem dX8_isBelow_35 : decode cX8_isBelow 35 = .ok (.goto 4, 3) := by decide +kernel
theorem dX8_isBelow_38 : decode cX8_isBelow 38 = .ok (.iconst 0, 1) := by decide +kernel
theorem dX8_isBelow_39 : decode cX8_isBelow 39 = .ok (.istore_n 2, 1) := by decide +kernel
theorem dX8_isBelow_40 : decode cX8_isBelow 40 = .ok (.iinc 3 1, 3) := by decide +kernel
theorem dX8_isBelow_43 : decode cX8_isBelow 43 = .ok (.goto (-39), 3) := by decide +kernel
theorem dX8_isBelow_46 : decode cX8_isBelow 46 = .ok (.iload_n 2, 1) := by decide +kernel
theorem dX8_isBelow_47 : decode cX8_isBelow 47 = .ok (.ireturn, 1) := by decide +kernel
theorem dX8_meet_0 : decode cX8_meet 0 = .ok (.iconst 0, 1) := by decide +kernel
theorem dX8_meet_1 : decode cX8_meet 1 = .ok (.istore_n 2, 1) := by decide +kernel
theorem dX8_meet_2 : decode cX8_meet 2 = .ok (.iconst 0, 1) := by decide +kernel
theorem dX8_meet_3 : decode cX8_meet 3 = .ok (.istore_n 3, 1) := by decide +kernel
theorem dX8_meet_4 : decode cX8_meet 4 = .ok (.iload_n 3, 1) := by decide +kernel
theorem dX8_meet_5 : decode cX8_meet 5 = .ok (.iconst 5, 1) := by decide +kernel
theorem dX8_meet_6 : decode cX8_meet 6 = .ok (.if_icmp .ge 46, 3) := by decide +kernel
theorem dX8_meet_9 : decode cX8_meet 9 = .ok (.iload_n 2, 1) := by decide +kernel
theorem dX8_meet_10 : decode cX8_meet 10 = .ok (.iload_n 0, 1) := by decide +kernel
theorem dX8_meet_11 : decode cX8_meet 11 = .ok (.iload_n 3, 1) := by decide +kernel
theorem dX8_meet_12 : decode cX8_meet 12 = .ok (.invokestatic 103, 3) := by decide +kernel
theorem dX8_meet_15 : decode cX8_meet 15 = .ok (.ifCond .lt 28, 3) := by decide +kernel
theorem dX8_meet_18 : decode cX8_meet 18 = .ok (.iload_n 0, 1) := by decide +kernel
theorem dX8_meet_19 : decode cX8_meet 19 = .ok (.iload_n 3, 1) := by decide +kernel
theorem dX8_meet_20 : decode cX8_meet 20 = .ok (.invokestatic 103, 3) := by decide +kernel
theorem dX8_meet_23 : decode cX8_meet 23 = .ok (.iload_n 1, 1) := by decide +kernel
theorem dX8_meet_24 : decode cX8_meet 24 = .ok (.iload_n 3, 1) := by decide +kernel
theorem dX8_meet_25 : decode cX8_meet 25 = .ok (.invokestatic 103, 3) := by decide +kernel
theorem dX8_meet_28 : decode cX8_meet 28 = .ok (.if_icmp .ne 15, 3) := by decide +kernel
theorem dX8_meet_31 : decode cX8_meet 31 = .ok (.iload_n 3, 1) := by decide +kernel
theorem dX8_meet_32 : decode cX8_meet 32 = .ok (.iload_n 0, 1) := by decide +kernel
theorem dX8_meet_33 : decode cX8_meet 33 = .ok (.iload_n 3, 1) := by decide +kernel
theorem dX8_meet_34 : decode cX8_meet 34 = .ok (.invokestatic 103, 3) := by decide +kernel
theorem dX8_meet_37 : decode cX8_meet 37 = .ok (.invokestatic 99, 3) := by decide +kernel
theorem dX8_meet_40 : decode cX8_meet 40 = .ok (.goto 4, 3) := by decide +kernel
theorem dX8_meet_43 : decode cX8_meet 43 = .ok (.iconst 0, 1) := by decide +kernel
theorem dX8_meet_44 : decode cX8_meet 44 = .ok (.iadd, 1) := by decide +kernel
theorem dX8_meet_45 : decode cX8_meet 45 = .ok (.istore_n 2, 1) := by decide +kernel
theorem dX8_meet_46 : decode cX8_meet 46 = .ok (.iinc 3 1, 3) := by decide +kernel
theorem dX8_meet_49 : decode cX8_meet 49 = .ok (.goto (-45), 3) := by decide +kernel
theorem dX8_meet_52 : decode cX8_meet 52 = .ok (.iload_n 2, 1) := by decide +kernel
theorem dX8_meet_53 : decode cX8_meet 53 = .ok (.ireturn, 1) := by decide +kernel
theorem dX8_joined_0 : decode cX8_joined 0 = .ok (.iconst 0, 1) := by decide +kernel
theorem dX8_joined_1 : decode cX8_joined 1 = .ok (.istore_n 2, 1) := by decide +kernel
theorem dX8_joined_2 : decode cX8_joined 2 = .ok (.iconst 0, 1) := by decide +kernel
theorem dX8_joined_3 : decode cX8_joined 3 = .ok (.istore_n 3, 1) := by decide +kernel
theorem dX8_joined_4 : decode cX8_joined 4 = .ok (.iload_n 3, 1) := by decide +kernel
theorem dX8_joined_5 : decode cX8_joined 5 = .ok (.iconst 5, 1) := by decide +kernel
theorem dX8_joined_6 : decode cX8_joined 6 = .ok (.if_icmp .ge 75, 3) := by decide +kernel
theorem dX8_joined_9 : decode cX8_joined 9 = .ok (.iload_n 0, 1) := by decide +kernel
theorem dX8_joined_10 : decode cX8_joined 10 = .ok (.iload_n 3, 1) := by decide +kernel
theorem dX8_joined_11 : decode cX8_joined 11 = .ok (.invokestatic 103, 3) := by decide +kernel
theorem dX8_joined_14 : decode cX8_joined 14 = .ok (.istore 4, 2) := by decide +kernel
theorem dX8_joined_16 : decode cX8_joined 16 = .ok (.iload_n 1, 1) := by decide +kernel
theorem dX8_joined_17 : decode cX8_joined 17 = .ok (.iload_n 3, 1) := by decide +kernel
theorem dX8_joined_18 : decode cX8_joined 18 = .ok (.invokestatic 103, 3) := by decide +kernel
theorem dX8_joined_21 : decode cX8_joined 21 = .ok (.istore 5, 2) := by decide +kernel
theorem dX8_joined_23 : decode cX8_joined 23 = .ok (.iload 4, 2) := by decide +kernel
theorem dX8_joined_25 : decode cX8_joined 25 = .ok (.ifCond .lt 18, 3) := by decide +kernel
theorem dX8_joined_28 : decode cX8_joined 28 = .ok (.iload 5, 2) := by decide +kernel
theorem dX8_joined_30 : decode cX8_joined 30 = .ok (.ifCond .lt 13, 3) := by decide +kernel
theorem dX8_joined_33 : decode cX8_joined 33 = .ok (.iload 4, 2) := by decide +kernel
theorem dX8_joined_35 : decode cX8_joined 35 = .ok (.iload 5, 2) := by decide +kernel
theorem dX8_joined_37 : decode cX8_joined 37 = .ok (.if_icmp .eq 6, 3) := by decide +kernel
theorem dX8_joined_40 : decode cX8_joined 40 = .ok (.bipush (-6), 2) := by decide +kernel
theorem dX8_joined_42 : decode cX8_joined 42 = .ok (.ireturn, 1) := by decide +kernel
theorem dX8_joined_43 : decode cX8_joined 43 = .ok (.iload_n 2, 1) := by decide +kernel
theorem dX8_joined_44 : decode cX8_joined 44 = .ok (.iload 4, 2) := by decide +kernel
theorem dX8_joined_46 : decode cX8_joined 46 = .ok (.ifCond .lt 12, 3) := by decide +kernel
theorem dX8_joined_49 : decode cX8_joined 49 = .ok (.iload_n 3, 1) := by decide +kernel
theorem dX8_joined_50 : decode cX8_joined 50 = .ok (.iload 4, 2) := by decide +kernel
theorem dX8_joined_52 : decode cX8_joined 52 = .ok (.invokestatic 99, 3) := by decide +kernel
theorem dX8_joined_55 : decode cX8_joined 55 = .ok (.goto 18, 3) := by decide +kernel
theorem dX8_joined_58 : decode cX8_joined 58 = .ok (.iload 5, 2) := by decide +kernel
theorem dX8_joined_60 : decode cX8_joined 60 = .ok (.ifCond .lt 12, 3) := by decide +kernel
theorem dX8_joined_63 : decode cX8_joined 63 = .ok (.iload_n 3, 1) := by decide +kernel
theorem dX8_joined_64 : decode cX8_joined 64 = .ok (.iload 5, 2) := by decide +kernel
theorem dX8_joined_66 : decode cX8_joined 66 = .ok (.invokestatic 99, 3) := by decide +kernel
theorem dX8_joined_69 : decode cX8_joined 69 = .ok (.goto 4, 3) := by decide +kernel
theorem dX8_joined_72 : decode cX8_joined 72 = .ok (.iconst 0, 1) := by decide +kernel
theorem dX8_joined_73 : decode cX8_joined 73 = .ok (.iadd, 1) := by decide +kernel
theorem dX8_joined_74 : decode cX8_joined 74 = .ok (.istore_n 2, 1) := by decide +kernel
theorem dX8_joined_75 : decode cX8_joined 75 = .ok (.iinc 3 1, 3) := by decide +kernel
theorem dX8_joined_78 : decode cX8_joined 78 = .ok (.goto (-74), 3) := by decide +kernel
theorem dX8_joined_81 : decode cX8_joined 81 = .ok (.iload_n 2, 1) := by decide +kernel
theorem dX8_joined_82 : decode cX8_joined 82 = .ok (.invokestatic 112, 3) := by decide +kernel
theorem dX8_joined_85 : decode cX8_joined 85 = .ok (.ifCond .eq 7, 3) := by decide +kernel
theorem dX8_joined_88 : decode cX8_joined 88 = .ok (.iload_n 2, 1) := by decide +kernel
theorem dX8_joined_89 : decode cX8_joined 89 = .ok (.goto 5, 3) := by decide +kernel
theorem dX8_joined_92 : decode cX8_joined 92 = .ok (.bipush (-6), 2) := by decide +kernel
theorem dX8_joined_94 : decode cX8_joined 94 = .ok (.ireturn, 1) := by decide +kernel
theorem dX8_set_0 : decode cX8_set 0 = .ok (.iload_n 1, 1) := by decide +kernel
theorem dX8_set_1 : decode cX8_set 1 = .ok (.invokestatic 116, 3) := by decide +kernel
theorem dX8_set_4 : decode cX8_set 4 = .ok (.ifCond .ne 5, 3) := by decide +kernel
theorem dX8_set_7 : decode cX8_set 7 = .ok (.iconst (-1), 1) := by decide +kernel
theorem dX8_set_8 : decode cX8_set 8 = .ok (.ireturn, 1) := by decide +kernel
theorem dX8_set_9 : decode cX8_set 9 = .ok (.iload_n 2, 1) := by decide +kernel
theorem dX8_set_10 : decode cX8_set 10 = .ok (.invokestatic 112, 3) := by decide +kernel
theorem dX8_set_13 : decode cX8_set 13 = .ok (.ifCond .ne 6, 3) := by decide +kernel
theorem dX8_set_16 : decode cX8_set 16 = .ok (.bipush (-2), 2) := by decide +kernel
theorem dX8_set_18 : decode cX8_set 18 = .ok (.ireturn, 1) := by decide +kernel
theorem dX8_set_19 : decode cX8_set 19 = .ok (.aload_n 0, 1) := by decide +kernel
theorem dX8_set_20 : decode cX8_set 20 = .ok (.getfield 7, 3) := by decide +kernel
theorem dX8_set_23 : decode cX8_set 23 = .ok (.iconst 0, 1) := by decide +kernel
theorem dX8_set_24 : decode cX8_set 24 = .ok (.iload_n 1, 1) := by decide +kernel
theorem dX8_set_25 : decode cX8_set 25 = .ok (.iadd, 1) := by decide +kernel
theorem dX8_set_26 : decode cX8_set 26 = .ok (.iaload, 1) := by decide +kernel
theorem dX8_set_27 : decode cX8_set 27 = .ok (.istore_n 3, 1) := by decide +kernel
theorem dX8_set_28 : decode cX8_set 28 = .ok (.aload_n 0, 1) := by decide +kernel
theorem dX8_set_29 : decode cX8_set 29 = .ok (.getfield 7, 3) := by decide +kernel
theorem dX8_set_32 : decode cX8_set 32 = .ok (.iconst 0, 1) := by decide +kernel
theorem dX8_set_33 : decode cX8_set 33 = .ok (.iload_n 1, 1) := by decide +kernel
theorem dX8_set_34 : decode cX8_set 34 = .ok (.iadd, 1) := by decide +kernel
theorem dX8_set_35 : decode cX8_set 35 = .ok (.iload_n 2, 1) := by decide +kernel
theorem dX8_set_36 : decode cX8_set 36 = .ok (.iastore, 1) := by decide +kernel
theorem dX8_set_37 : decode cX8_set 37 = .ok (.iload_n 3, 1) := by decide +kernel
theorem dX8_set_38 : decode cX8_set 38 = .ok (.ireturn, 1) := by decide +kernel
theorem dX8_turnsOf_0 : decode cX8_turnsOf 0 = .ok (.iconst 1, 1) := by decide +kernel
theorem dX8_turnsOf_1 : decode cX8_turnsOf 1 = .ok (.istore_n 1, 1) := by decide +kernel
theorem dX8_turnsOf_2 : decode cX8_turnsOf 2 = .ok (.iload_n 0, 1) := by decide +kernel
theorem dX8_turnsOf_3 : decode cX8_turnsOf 3 = .ok (.istore_n 2, 1) := by decide +kernel
theorem dX8_turnsOf_4 : decode cX8_turnsOf 4 = .ok (.iload_n 2, 1) := by decide +kernel
theorem dX8_turnsOf_5 : decode cX8_turnsOf 5 = .ok (.invokestatic 119, 3) := by decide +kernel
theorem dX8_turnsOf_8 : decode cX8_turnsOf 8 = .ok (.ifCond .ne 15, 3) := by decide +kernel
theorem dX8_turnsOf_11 : decode cX8_turnsOf 11 = .ok (.iload_n 2, 1) := by decide +kernel
theorem dX8_turnsOf_12 : decode cX8_turnsOf 12 = .ok (.iload_n 0, 1) := by decide +kernel
theorem dX8_turnsOf_13 : decode cX8_turnsOf 13 = .ok (.invokestatic 122, 3) := by decide +kernel
theorem dX8_turnsOf_16 : decode cX8_turnsOf 16 = .ok (.istore_n 2, 1) := by decide +kernel
theorem dX8_turnsOf_17 : decode cX8_turnsOf 17 = .ok (.iinc 1 1, 3) := by decide +kernel
theorem dX8_turnsOf_20 : decode cX8_turnsOf 20 = .ok (.goto (-16), 3) := by decide +kernel
theorem dX8_turnsOf_23 : decode cX8_turnsOf 23 = .ok (.iload_n 1, 1) := by decide +kernel
theorem dX8_turnsOf_24 : decode cX8_turnsOf 24 = .ok (.ireturn, 1) := by decide +kernel
theorem dX8_of_0 : decode cX8_of 0 = .ok (.iload_n 1, 1) := by decide +kernel
theorem dX8_of_1 : decode cX8_of 1 = .ok (.invokestatic 116, 3) := by decide +kernel
theorem dX8_of_4 : decode cX8_of 4 = .ok (.ifCond .ne 5, 3) := by decide +kernel
theorem dX8_of_7 : decode cX8_of 7 = .ok (.iconst (-1), 1) := by decide +kernel
theorem dX8_of_8 : decode cX8_of 8 = .ok (.ireturn, 1) := by decide +kernel
theorem dX8_of_9 : decode cX8_of 9 = .ok (.aload_n 0, 1) := by decide +kernel
theorem dX8_of_10 : decode cX8_of 10 = .ok (.getfield 7, 3) := by decide +kernel
theorem dX8_of_13 : decode cX8_of 13 = .ok (.iconst 0, 1) := by decide +kernel
theorem dX8_of_14 : decode cX8_of 14 = .ok (.iload_n 1, 1) := by decide +kernel
theorem dX8_of_15 : decode cX8_of 15 = .ok (.iadd, 1) := by decide +kernel
theorem dX8_of_16 : decode cX8_of 16 = .ok (.iaload, 1) := by decide +kernel
theorem dX8_of_17 : decode cX8_of 17 = .ok (.istore_n 3, 1) := by decide +kernel
theorem dX8_of_18 : decode cX8_of 18 = .ok (.iload_n 2, 1) := by decide +kernel
theorem dX8_of_19 : decode cX8_of 19 = .ok (.tableswitch 54 0 3 #[29, 31, 36, 49], 29) := by decide +kernel
theorem dX8_of_48 : decode cX8_of 48 = .ok (.iload_n 3, 1) := by decide +kernel
theorem dX8_of_49 : decode cX8_of 49 = .ok (.ireturn, 1) := by decide +kernel
theorem dX8_of_50 : decode cX8_of 50 = .ok (.iload_n 3, 1) := by decide +kernel
theorem dX8_of_51 : decode cX8_of 51 = .ok (.invokestatic 125, 3) := by decide +kernel
theorem dX8_of_54 : decode cX8_of 54 = .ok (.ireturn, 1) := by decide +kernel
theorem dX8_of_55 : decode cX8_of 55 = .ok (.iload_n 3, 1) := by decide +kernel
theorem dX8_of_56 : decode cX8_of 56 = .ok (.invokestatic 119, 3) := by decide +kernel
theorem dX8_of_59 : decode cX8_of 59 = .ok (.ifCond .eq 7, 3) := by decide +kernel
theorem dX8_of_62 : decode cX8_of 62 = .ok (.iconst 1, 1) := by decide +kernel
theorem dX8_of_63 : decode cX8_of 63 = .ok (.goto 4, 3) := by decide +kernel
theorem dX8_of_66 : decode cX8_of 66 = .ok (.iconst 0, 1) := by decide +kernel
theorem dX8_of_67 : decode cX8_of 67 = .ok (.ireturn, 1) := by decide +kernel
theorem dX8_of_68 : decode cX8_of 68 = .ok (.iload_n 3, 1) := by decide +kernel
theorem dX8_of_69 : decode cX8_of 69 = .ok (.invokestatic 128, 3) := by decide +kernel
theorem dX8_of_72 : decode cX8_of 72 = .ok (.ireturn, 1) := by decide +kernel
theorem dX8_of_73 : decode cX8_of 73 = .ok (.bipush (-2), 2) := by decide +kernel
theorem dX8_of_75 : decode cX8_of 75 = .ok (.ireturn, 1) := by decide +kernel
theorem dX8_leads_0 : decode cX8_leads 0 = .ok (.iload_n 1, 1) := by decide +kernel
theorem dX8_leads_1 : decode cX8_leads 1 = .ok (.invokestatic 116, 3) := by decide +kernel
theorem dX8_leads_4 : decode cX8_leads 4 = .ok (.ifCond .eq 12, 3) := by decide +kernel
theorem dX8_leads_7 : decode cX8_leads 7 = .ok (.iload_n 2, 1) := by decide +kernel
theorem dX8_leads_8 : decode cX8_leads 8 = .ok (.iconst 0, 1) := by decide +kernel
theorem dX8_leads_9 : decode cX8_leads 9 = .ok (.iconst 4, 1) := by decide +kernel
theorem dX8_leads_10 : decode cX8_leads 10 = .ok (.invokestatic 91, 3) := by decide +kernel
theorem dX8_leads_13 : decode cX8_leads 13 = .ok (.ifCond .ne 5, 3) := by decide +kernel
theorem dX8_leads_16 : decode cX8_leads 16 = .ok (.iconst (-1), 1) := by decide +kernel
theorem dX8_leads_17 : decode cX8_leads 17 = .ok (.ireturn, 1) := by decide +kernel
theorem dX8_leads_18 : decode cX8_leads 18 = .ok (.aload_n 0, 1) := by decide +kernel
theorem dX8_leads_19 : decode cX8_leads 19 = .ok (.getfield 7, 3) := by decide +kernel
theorem dX8_leads_22 : decode cX8_leads 22 = .ok (.iconst 0, 1) := by decide +kernel
theorem dX8_leads_23 : decode cX8_leads 23 = .ok (.iload_n 1, 1) := by decide +kernel
theorem dX8_leads_24 : decode cX8_leads 24 = .ok (.iadd, 1) := by decide +kernel
theorem dX8_leads_25 : decode cX8_leads 25 = .ok (.iaload, 1) := by decide +kernel
theorem dX8_leads_26 : decode cX8_leads 26 = .ok (.iload_n 2, 1) := by decide +kernel
theorem dX8_leads_27 : decode cX8_leads 27 = .ok (.invokestatic 103, 3) := by decide +kernel
theorem dX8_leads_30 : decode cX8_leads 30 = .ok (.istore_n 3, 1) := by decide +kernel
theorem dX8_leads_31 : decode cX8_leads 31 = .ok (.iload_n 3, 1) := by decide +kernel
theorem dX8_leads_32 : decode cX8_leads 32 = .ok (.ifCond .ge 8, 3) := by decide +kernel
theorem dX8_leads_35 : decode cX8_leads 35 = .ok (.bipush (-6), 2) := by decide +kernel
theorem dX8_leads_37 : decode cX8_leads 37 = .ok (.goto 4, 3) := by decide +kernel
theorem dX8_leads_40 : decode cX8_leads 40 = .ok (.iload_n 3, 1) := by decide +kernel
theorem dX8_leads_41 : decode cX8_leads 41 = .ok (.ireturn, 1) := by decide +kernel
theorem dX8_hold_0 : decode cX8_hold 0 = .ok (.aload_n 0, 1) := by decide +kernel
theorem dX8_hold_1 : decode cX8_hold 1 = .ok (.getfield 7, 3) := by decide +kernel
theorem dX8_hold_4 : decode cX8_hold 4 = .ok (.iconst 0, 1) := by decide +kernel
theorem dX8_hold_5 : decode cX8_hold 5 = .ok (.iload_n 1, 1) := by decide +kernel
theorem dX8_hold_6 : decode cX8_hold 6 = .ok (.iadd, 1) := by decide +kernel
theorem dX8_hold_7 : decode cX8_hold 7 = .ok (.iload_n 2, 1) := by decide +kernel
theorem dX8_hold_8 : decode cX8_hold 8 = .ok (.iastore, 1) := by decide +kernel
theorem dX8_hold_9 : decode cX8_hold 9 = .ok (.iload_n 2, 1) := by decide +kernel
theorem dX8_hold_10 : decode cX8_hold 10 = .ok (.invokestatic 125, 3) := by decide +kernel
theorem dX8_hold_13 : decode cX8_hold 13 = .ok (.ireturn, 1) := by decide +kernel
theorem dX8_both_0 : decode cX8_both 0 = .ok (.iload_n 1, 1) := by decide +kernel
theorem dX8_both_1 : decode cX8_both 1 = .ok (.invokestatic 116, 3) := by decide +kernel
theorem dX8_both_4 : decode cX8_both 4 = .ok (.ifCond .eq 17, 3) := by decide +kernel
theorem dX8_both_7 : decode cX8_both 7 = .ok (.iload_n 2, 1) := by decide +kernel
theorem dX8_both_8 : decode cX8_both 8 = .ok (.invokestatic 116, 3) := by decide +kernel
theorem dX8_both_11 : decode cX8_both 11 = .ok (.ifCond .eq 10, 3) := by decide +kernel
theorem dX8_both_14 : decode cX8_both 14 = .ok (.iload_n 3, 1) := by decide +kernel
theorem dX8_both_15 : decode cX8_both 15 = .ok (.invokestatic 116, 3) := by decide +kernel
theorem dX8_both_18 : decode cX8_both 18 = .ok (.ifCond .ne 5, 3) := by decide +kernel
theorem dX8_both_21 : decode cX8_both 21 = .ok (.iconst (-1), 1) := by decide +kernel
theorem dX8_both_22 : decode cX8_both 22 = .ok (.ireturn, 1) := by decide +kernel
theorem dX8_both_23 : decode cX8_both 23 = .ok (.iload 4, 2) := by decide +kernel
theorem dX8_both_25 : decode cX8_both 25 = .ok (.iconst 0, 1) := by decide +kernel
theorem dX8_both_26 : decode cX8_both 26 = .ok (.iconst 2, 1) := by decide +kernel
theorem dX8_both_27 : decode cX8_both 27 = .ok (.invokestatic 91, 3) := by decide +kernel
theorem dX8_both_30 : decode cX8_both 30 = .ok (.ifCond .ne 6, 3) := by decide +kernel
theorem dX8_both_33 : decode cX8_both 33 = .ok (.bipush (-2), 2) := by decide +kernel
theorem dX8_both_35 : decode cX8_both 35 = .ok (.ireturn, 1) := by decide +kernel
theorem dX8_both_36 : decode cX8_both 36 = .ok (.aload_n 0, 1) := by decide +kernel
theorem dX8_both_37 : decode cX8_both 37 = .ok (.getfield 7, 3) := by decide +kernel
theorem dX8_both_40 : decode cX8_both 40 = .ok (.iconst 0, 1) := by decide +kernel
theorem dX8_both_41 : decode cX8_both 41 = .ok (.iload_n 2, 1) := by decide +kernel
theorem dX8_both_42 : decode cX8_both 42 = .ok (.iadd, 1) := by decide +kernel
theorem dX8_both_43 : decode cX8_both 43 = .ok (.iaload, 1) := by decide +kernel
theorem dX8_both_44 : decode cX8_both 44 = .ok (.istore 5, 2) := by decide +kernel
theorem dX8_both_46 : decode cX8_both 46 = .ok (.aload_n 0, 1) := by decide +kernel
theorem dX8_both_47 : decode cX8_both 47 = .ok (.getfield 7, 3) := by decide +kernel
theorem dX8_both_50 : decode cX8_both 50 = .ok (.iconst 0, 1) := by decide +kernel
theorem dX8_both_51 : decode cX8_both 51 = .ok (.iload_n 3, 1) := by decide +kernel
theorem dX8_both_52 : decode cX8_both 52 = .ok (.iadd, 1) := by decide +kernel
theorem dX8_both_53 : decode cX8_both 53 = .ok (.iaload, 1) := by decide +kernel
theorem dX8_both_54 : decode cX8_both 54 = .ok (.istore 6, 2) := by decide +kernel
theorem dX8_both_56 : decode cX8_both 56 = .ok (.iload 4, 2) := by decide +kernel
theorem dX8_both_58 : decode cX8_both 58 = .ok (.ifCond .ne 13, 3) := by decide +kernel
theorem dX8_both_61 : decode cX8_both 61 = .ok (.iload 5, 2) := by decide +kernel
theorem dX8_both_63 : decode cX8_both 63 = .ok (.iload 6, 2) := by decide +kernel
theorem dX8_both_65 : decode cX8_both 65 = .ok (.invokestatic 122, 3) := by decide +kernel
theorem dX8_both_68 : decode cX8_both 68 = .ok (.goto 26, 3) := by decide +kernel
theorem dX8_both_71 : decode cX8_both 71 = .ok (.iload 4, 2) := by decide +kernel
theorem dX8_both_73 : decode cX8_both 73 = .ok (.iconst 1, 1) := by decide +kernel
theorem dX8_both_74 : decode cX8_both 74 = .ok (.if_icmp .ne 13, 3) := by decide +kernel
theorem dX8_both_77 : decode cX8_both 77 = .ok (.iload 5, 2) := by decide +kernel
theorem dX8_both_79 : decode cX8_both 79 = .ok (.iload 6, 2) := by decide +kernel
theorem dX8_both_81 : decode cX8_both 81 = .ok (.invokestatic 131, 3) := by decide +kernel
theorem dX8_both_84 : decode cX8_both 84 = .ok (.goto 10, 3) := by decide +kernel
theorem dX8_both_87 : decode cX8_both 87 = .ok (.iload 5, 2) := by decide +kernel
theorem dX8_both_89 : decode cX8_both 89 = .ok (.iload 6, 2) := by decide +kernel
theorem dX8_both_91 : decode cX8_both 91 = .ok (.invokestatic 134, 3) := by decide +kernel
theorem dX8_both_94 : decode cX8_both 94 = .ok (.istore 7, 2) := by decide +kernel
theorem dX8_both_96 : decode cX8_both 96 = .ok (.iload 7, 2) := by decide +kernel
theorem dX8_both_98 : decode cX8_both 98 = .ok (.ifCond .ge 8, 3) := by decide +kernel
theorem dX8_both_101 : decode cX8_both 101 = .ok (.bipush (-3), 2) := by decide +kernel
theorem dX8_both_103 : decode cX8_both 103 = .ok (.goto 10, 3) := by decide +kernel
theorem dX8_both_106 : decode cX8_both 106 = .ok (.aload_n 0, 1) := by decide +kernel
theorem dX8_both_107 : decode cX8_both 107 = .ok (.iload_n 1, 1) := by decide +kernel
theorem dX8_both_108 : decode cX8_both 108 = .ok (.iload 7, 2) := by decide +kernel
theorem dX8_both_110 : decode cX8_both 110 = .ok (.invokevirtual 137, 3) := by decide +kernel
theorem dX8_both_113 : decode cX8_both 113 = .ok (.ireturn, 1) := by decide +kernel
theorem dX8_turn_0 : decode cX8_turn 0 = .ok (.iload_n 1, 1) := by decide +kernel
theorem dX8_turn_1 : decode cX8_turn 1 = .ok (.invokestatic 116, 3) := by decide +kernel
theorem dX8_turn_4 : decode cX8_turn 4 = .ok (.ifCond .eq 10, 3) := by decide +kernel
theorem dX8_turn_7 : decode cX8_turn 7 = .ok (.iload_n 2, 1) := by decide +kernel
theorem dX8_turn_8 : decode cX8_turn 8 = .ok (.invokestatic 116, 3) := by decide +kernel
theorem dX8_turn_11 : decode cX8_turn 11 = .ok (.ifCond .ne 5, 3) := by decide +kernel
theorem dX8_turn_14 : decode cX8_turn 14 = .ok (.iconst (-1), 1) := by decide +kernel
theorem dX8_turn_15 : decode cX8_turn 15 = .ok (.ireturn, 1) := by decide +kernel
theorem dX8_turn_16 : decode cX8_turn 16 = .ok (.iload_n 3, 1) := by decide +kernel
theorem dX8_turn_17 : decode cX8_turn 17 = .ok (.iconst 0, 1) := by decide +kernel
theorem dX8_turn_18 : decode cX8_turn 18 = .ok (.iconst 2, 1) := by decide +kernel
theorem dX8_turn_19 : decode cX8_turn 19 = .ok (.invokestatic 91, 3) := by decide +kernel
theorem dX8_turn_22 : decode cX8_turn 22 = .ok (.ifCond .ne 6, 3) := by decide +kernel
theorem dX8_turn_25 : decode cX8_turn 25 = .ok (.bipush (-2), 2) := by decide +kernel
theorem dX8_turn_27 : decode cX8_turn 27 = .ok (.ireturn, 1) := by decide +kernel
theorem dX8_turn_28 : decode cX8_turn 28 = .ok (.aload_n 0, 1) := by decide +kernel
theorem dX8_turn_29 : decode cX8_turn 29 = .ok (.getfield 7, 3) := by decide +kernel
theorem dX8_turn_32 : decode cX8_turn 32 = .ok (.iconst 0, 1) := by decide +kernel
theorem dX8_turn_33 : decode cX8_turn 33 = .ok (.iload_n 2, 1) := by decide +kernel
theorem dX8_turn_34 : decode cX8_turn 34 = .ok (.iadd, 1) := by decide +kernel
theorem dX8_turn_35 : decode cX8_turn 35 = .ok (.iaload, 1) := by decide +kernel
theorem dX8_turn_36 : decode cX8_turn 36 = .ok (.istore 4, 2) := by decide +kernel
theorem dX8_turn_38 : decode cX8_turn 38 = .ok (.aload_n 0, 1) := by decide +kernel
theorem dX8_turn_39 : decode cX8_turn 39 = .ok (.iload_n 1, 1) := by decide +kernel
theorem dX8_turn_40 : decode cX8_turn 40 = .ok (.iload_n 3, 1) := by decide +kernel
theorem dX8_turn_41 : decode cX8_turn 41 = .ok (.ifCond .ne 11, 3) := by decide +kernel
theorem dX8_turn_44 : decode cX8_turn 44 = .ok (.iload 4, 2) := by decide +kernel
theorem dX8_turn_46 : decode cX8_turn 46 = .ok (.invokestatic 106, 3) := by decide +kernel
theorem dX8_turn_49 : decode cX8_turn 49 = .ok (.goto 21, 3) := by decide +kernel
theorem dX8_turn_52 : decode cX8_turn 52 = .ok (.iload_n 3, 1) := by decide +kernel
theorem dX8_turn_53 : decode cX8_turn 53 = .ok (.iconst 1, 1) := by decide +kernel
theorem dX8_turn_54 : decode cX8_turn 54 = .ok (.if_icmp .ne 11, 3) := by decide +kernel
theorem dX8_turn_57 : decode cX8_turn 57 = .ok (.iload 4, 2) := by decide +kernel
theorem dX8_turn_59 : decode cX8_turn 59 = .ok (.invokestatic 109, 3) := by decide +kernel
theorem dX8_turn_62 : decode cX8_turn 62 = .ok (.goto 8, 3) := by decide +kernel
theorem dX8_turn_65 : decode cX8_turn 65 = .ok (.iload 4, 2) := by decide +kernel
theorem dX8_turn_67 : decode cX8_turn 67 = .ok (.invokestatic 140, 3) := by decide +kernel
theorem dX8_turn_70 : decode cX8_turn 70 = .ok (.invokevirtual 137, 3) := by decide +kernel
theorem dX8_turn_73 : decode cX8_turn 73 = .ok (.ireturn, 1) := by decide +kernel
theorem dX8_below_0 : decode cX8_below 0 = .ok (.iload_n 1, 1) := by decide +kernel
theorem dX8_below_1 : decode cX8_below 1 = .ok (.invokestatic 116, 3) := by decide +kernel
theorem dX8_below_4 : decode cX8_below 4 = .ok (.ifCond .eq 10, 3) := by decide +kernel
theorem dX8_below_7 : decode cX8_below 7 = .ok (.iload_n 2, 1) := by decide +kernel
theorem dX8_below_8 : decode cX8_below 8 = .ok (.invokestatic 116, 3) := by decide +kernel
theorem dX8_below_11 : decode cX8_below 11 = .ok (.ifCond .ne 5, 3) := by decide +kernel
theorem dX8_below_14 : decode cX8_below 14 = .ok (.iconst (-1), 1) := by decide +kernel
theorem dX8_below_15 : decode cX8_below 15 = .ok (.ireturn, 1) := by decide +kernel
theorem dX8_below_16 : decode cX8_below 16 = .ok (.aload_n 0, 1) := by decide +kernel
theorem dX8_below_17 : decode cX8_below 17 = .ok (.getfield 7, 3) := by decide +kernel
theorem dX8_below_20 : decode cX8_below 20 = .ok (.iconst 0, 1) := by decide +kernel
theorem dX8_below_21 : decode cX8_below 21 = .ok (.iload_n 1, 1) := by decide +kernel
theorem dX8_below_22 : decode cX8_below 22 = .ok (.iadd, 1) := by decide +kernel
theorem dX8_below_23 : decode cX8_below 23 = .ok (.iaload, 1) := by decide +kernel
theorem dX8_below_24 : decode cX8_below 24 = .ok (.aload_n 0, 1) := by decide +kernel
theorem dX8_below_25 : decode cX8_below 25 = .ok (.getfield 7, 3) := by decide +kernel
theorem dX8_below_28 : decode cX8_below 28 = .ok (.iconst 0, 1) := by decide +kernel
theorem dX8_below_29 : decode cX8_below 29 = .ok (.iload_n 2, 1) := by decide +kernel
theorem dX8_below_30 : decode cX8_below 30 = .ok (.iadd, 1) := by decide +kernel
theorem dX8_below_31 : decode cX8_below 31 = .ok (.iaload, 1) := by decide +kernel
theorem dX8_below_32 : decode cX8_below 32 = .ok (.invokestatic 143, 3) := by decide +kernel
theorem dX8_below_35 : decode cX8_below 35 = .ok (.ifCond .eq 7, 3) := by decide +kernel
theorem dX8_below_38 : decode cX8_below 38 = .ok (.iconst 1, 1) := by decide +kernel
theorem dX8_below_39 : decode cX8_below 39 = .ok (.goto 4, 3) := by decide +kernel
theorem dX8_below_42 : decode cX8_below 42 = .ok (.iconst 0, 1) := by decide +kernel
theorem dX8_below_43 : decode cX8_below 43 = .ok (.ireturn, 1) := by decide +kernel
theorem dX8_say_0 : decode cX8_say 0 = .ok (.iload_n 1, 1) := by decide +kernel
theorem dX8_say_1 : decode cX8_say 1 = .ok (.bipush 33, 2) := by decide +kernel
theorem dX8_say_3 : decode cX8_say 3 = .ok (.bipush 126, 2) := by decide +kernel
theorem dX8_say_5 : decode cX8_say 5 = .ok (.invokestatic 91, 3) := by decide +kernel
theorem dX8_say_8 : decode cX8_say 8 = .ok (.ifCond .ne 6, 3) := by decide +kernel
theorem dX8_say_11 : decode cX8_say 11 = .ok (.bipush (-2), 2) := by decide +kernel
theorem dX8_say_13 : decode cX8_say 13 = .ok (.ireturn, 1) := by decide +kernel
theorem dX8_say_14 : decode cX8_say 14 = .ok (.aload_n 0, 1) := by decide +kernel
theorem dX8_say_15 : decode cX8_say 15 = .ok (.getfield 147, 3) := by decide +kernel
theorem dX8_say_18 : decode cX8_say 18 = .ok (.bipush 12, 2) := by decide +kernel
theorem dX8_say_20 : decode cX8_say 20 = .ok (.if_icmp .ne 6, 3) := by decide +kernel
theorem dX8_say_23 : decode cX8_say 23 = .ok (.bipush (-4), 2) := by decide +kernel
theorem dX8_say_25 : decode cX8_say 25 = .ok (.ireturn, 1) := by decide +kernel
theorem dX8_say_26 : decode cX8_say 26 = .ok (.aload_n 0, 1) := by decide +kernel
theorem dX8_say_27 : decode cX8_say 27 = .ok (.getfield 20, 3) := by decide +kernel
theorem dX8_say_30 : decode cX8_say 30 = .ok (.aload_n 0, 1) := by decide +kernel
theorem dX8_say_31 : decode cX8_say 31 = .ok (.getfield 147, 3) := by decide +kernel
theorem dX8_say_34 : decode cX8_say 34 = .ok (.iload_n 1, 1) := by decide +kernel
theorem dX8_say_35 : decode cX8_say 35 = .ok (.iastore, 1) := by decide +kernel
theorem dX8_say_36 : decode cX8_say 36 = .ok (.aload_n 0, 1) := by decide +kernel
theorem dX8_say_37 : decode cX8_say 37 = .ok (.dup, 1) := by decide +kernel
theorem dX8_say_38 : decode cX8_say 38 = .ok (.getfield 147, 3) := by decide +kernel
theorem dX8_say_41 : decode cX8_say 41 = .ok (.iconst 1, 1) := by decide +kernel
theorem dX8_say_42 : decode cX8_say 42 = .ok (.iadd, 1) := by decide +kernel
theorem dX8_say_43 : decode cX8_say 43 = .ok (.putfield 147, 3) := by decide +kernel
theorem dX8_say_46 : decode cX8_say 46 = .ok (.aload_n 0, 1) := by decide +kernel
theorem dX8_say_47 : decode cX8_say 47 = .ok (.getfield 147, 3) := by decide +kernel
theorem dX8_say_50 : decode cX8_say 50 = .ok (.ireturn, 1) := by decide +kernel
theorem dX8_wipe_0 : decode cX8_wipe 0 = .ok (.aload_n 0, 1) := by decide +kernel
theorem dX8_wipe_1 : decode cX8_wipe 1 = .ok (.getfield 147, 3) := by decide +kernel
theorem dX8_wipe_4 : decode cX8_wipe 4 = .ok (.istore_n 1, 1) := by decide +kernel
theorem dX8_wipe_5 : decode cX8_wipe 5 = .ok (.aload_n 0, 1) := by decide +kernel
theorem dX8_wipe_6 : decode cX8_wipe 6 = .ok (.iconst 0, 1) := by decide +kernel
theorem dX8_wipe_7 : decode cX8_wipe 7 = .ok (.putfield 147, 3) := by decide +kernel
theorem dX8_wipe_10 : decode cX8_wipe 10 = .ok (.iload_n 1, 1) := by decide +kernel
theorem dX8_wipe_11 : decode cX8_wipe 11 = .ok (.ireturn, 1) := by decide +kernel
theorem dX8_letterOf_0 : decode cX8_letterOf 0 = .ok (.iload_n 0, 1) := by decide +kernel
theorem dX8_letterOf_1 : decode cX8_letterOf 1 = .ok (.bipush 120, 2) := by decide +kernel
theorem dX8_letterOf_3 : decode cX8_letterOf 3 = .ok (.bipush 122, 2) := by decide +kernel
theorem dX8_letterOf_5 : decode cX8_letterOf 5 = .ok (.invokestatic 91, 3) := by decide +kernel
theorem dX8_letterOf_8 : decode cX8_letterOf 8 = .ok (.ifCond .eq 12, 3) := by decide +kernel
theorem dX8_letterOf_11 : decode cX8_letterOf 11 = .ok (.iconst 2, 1) := by decide +kernel
theorem dX8_letterOf_12 : decode cX8_letterOf 12 = .ok (.iload_n 0, 1) := by decide +kernel
theorem dX8_letterOf_13 : decode cX8_letterOf 13 = .ok (.bipush 120, 2) := by decide +kernel
theorem dX8_letterOf_15 : decode cX8_letterOf 15 = .ok (.isub, 1) := by decide +kernel
theorem dX8_letterOf_16 : decode cX8_letterOf 16 = .ok (.imul, 1) := by decide +kernel
theorem dX8_letterOf_17 : decode cX8_letterOf 17 = .ok (.goto 27, 3) := by decide +kernel
theorem dX8_letterOf_20 : decode cX8_letterOf 20 = .ok (.iload_n 0, 1) := by decide +kernel
theorem dX8_letterOf_21 : decode cX8_letterOf 21 = .ok (.bipush 88, 2) := by decide +kernel
theorem dX8_letterOf_23 : decode cX8_letterOf 23 = .ok (.bipush 90, 2) := by decide +kernel
theorem dX8_letterOf_25 : decode cX8_letterOf 25 = .ok (.invokestatic 91, 3) := by decide +kernel
theorem dX8_letterOf_28 : decode cX8_letterOf 28 = .ok (.ifCond .eq 14, 3) := by decide +kernel
theorem dX8_letterOf_31 : decode cX8_letterOf 31 = .ok (.iconst 2, 1) := by decide +kernel
theorem dX8_letterOf_32 : decode cX8_letterOf 32 = .ok (.iload_n 0, 1) := by decide +kernel
theorem dX8_letterOf_33 : decode cX8_letterOf 33 = .ok (.bipush 88, 2) := by decide +kernel
theorem dX8_letterOf_35 : decode cX8_letterOf 35 = .ok (.isub, 1) := by decide +kernel
theorem dX8_letterOf_36 : decode cX8_letterOf 36 = .ok (.imul, 1) := by decide +kernel
theorem dX8_letterOf_37 : decode cX8_letterOf 37 = .ok (.iconst 1, 1) := by decide +kernel
theorem dX8_letterOf_38 : decode cX8_letterOf 38 = .ok (.iadd, 1) := by decide +kernel
theorem dX8_letterOf_39 : decode cX8_letterOf 39 = .ok (.goto 5, 3) := by decide +kernel
theorem dX8_letterOf_42 : decode cX8_letterOf 42 = .ok (.bipush (-6), 2) := by decide +kernel
theorem dX8_letterOf_44 : decode cX8_letterOf 44 = .ok (.ireturn, 1) := by decide +kernel
theorem dX8_word_0 : decode cX8_word 0 = .ok (.iload_n 1, 1) := by decide +kernel
theorem dX8_word_1 : decode cX8_word 1 = .ok (.invokestatic 151, 3) := by decide +kernel
theorem dX8_word_4 : decode cX8_word 4 = .ok (.ifCond .ne 5, 3) := by decide +kernel
theorem dX8_word_7 : decode cX8_word 7 = .ok (.iconst (-1), 1) := by decide +kernel
theorem dX8_word_8 : decode cX8_word 8 = .ok (.ireturn, 1) := by decide +kernel
theorem dX8_word_9 : decode cX8_word 9 = .ok (.iconst 0, 1) := by decide +kernel
theorem dX8_word_10 : decode cX8_word 10 = .ok (.istore_n 2, 1) := by decide +kernel
theorem dX8_word_11 : decode cX8_word 11 = .ok (.iload_n 2, 1) := by decide +kernel
theorem dX8_word_12 : decode cX8_word 12 = .ok (.aload_n 0, 1) := by decide +kernel
theorem dX8_word_13 : decode cX8_word 13 = .ok (.getfield 147, 3) := by decide +kernel
theorem dX8_word_16 : decode cX8_word 16 = .ok (.if_icmp .ge 24, 3) := by decide +kernel
theorem dX8_word_19 : decode cX8_word 19 = .ok (.aload_n 0, 1) := by decide +kernel
theorem dX8_word_20 : decode cX8_word 20 = .ok (.getfield 20, 3) := by decide +kernel
theorem dX8_word_23 : decode cX8_word 23 = .ok (.iload_n 2, 1) := by decide +kernel
theorem dX8_word_24 : decode cX8_word 24 = .ok (.iaload, 1) := by decide +kernel
theorem dX8_word_25 : decode cX8_word 25 = .ok (.invokestatic 154, 3) := by decide +kernel
theorem dX8_word_28 : decode cX8_word 28 = .ok (.ifCond .ge 6, 3) := by decide +kernel
theorem dX8_word_31 : decode cX8_word 31 = .ok (.bipush (-7), 2) := by decide +kernel
theorem dX8_word_33 : decode cX8_word 33 = .ok (.ireturn, 1) := by decide +kernel
theorem dX8_word_34 : decode cX8_word 34 = .ok (.iinc 2 1, 3) := by decide +kernel
theorem dX8_word_37 : decode cX8_word 37 = .ok (.goto (-26), 3) := by decide +kernel
theorem dX8_word_40 : decode cX8_word 40 = .ok (.iconst 0, 1) := by decide +kernel
theorem dX8_word_41 : decode cX8_word 41 = .ok (.istore_n 2, 1) := by decide +kernel
theorem dX8_word_42 : decode cX8_word 42 = .ok (.iload_n 2, 1) := by decide +kernel
theorem dX8_word_43 : decode cX8_word 43 = .ok (.aload_n 0, 1) := by decide +kernel
theorem dX8_word_44 : decode cX8_word 44 = .ok (.getfield 147, 3) := by decide +kernel
theorem dX8_word_47 : decode cX8_word 47 = .ok (.if_icmp .ge 32, 3) := by decide +kernel
theorem dX8_word_50 : decode cX8_word 50 = .ok (.aload_n 0, 1) := by decide +kernel
theorem dX8_word_51 : decode cX8_word 51 = .ok (.getfield 7, 3) := by decide +kernel
theorem dX8_word_54 : decode cX8_word 54 = .ok (.bipush 10, 2) := by decide +kernel
theorem dX8_word_56 : decode cX8_word 56 = .ok (.bipush 12, 2) := by decide +kernel
theorem dX8_word_58 : decode cX8_word 58 = .ok (.iload_n 1, 1) := by decide +kernel
theorem dX8_word_59 : decode cX8_word 59 = .ok (.imul, 1) := by decide +kernel
theorem dX8_word_60 : decode cX8_word 60 = .ok (.iadd, 1) := by decide +kernel
theorem dX8_word_61 : decode cX8_word 61 = .ok (.iload_n 2, 1) := by decide +kernel
theorem dX8_word_62 : decode cX8_word 62 = .ok (.iadd, 1) := by decide +kernel
theorem dX8_word_63 : decode cX8_word 63 = .ok (.aload_n 0, 1) := by decide +kernel
theorem dX8_word_64 : decode cX8_word 64 = .ok (.getfield 20, 3) := by decide +kernel
theorem dX8_word_67 : decode cX8_word 67 = .ok (.iload_n 2, 1) := by decide +kernel
theorem dX8_word_68 : decode cX8_word 68 = .ok (.iaload, 1) := by decide +kernel
theorem dX8_word_69 : decode cX8_word 69 = .ok (.invokestatic 154, 3) := by decide +kernel
theorem dX8_word_72 : decode cX8_word 72 = .ok (.iastore, 1) := by decide +kernel
theorem dX8_word_73 : decode cX8_word 73 = .ok (.iinc 2 1, 3) := by decide +kernel
theorem dX8_word_76 : decode cX8_word 76 = .ok (.goto (-34), 3) := by decide +kernel
theorem dX8_word_79 : decode cX8_word 79 = .ok (.aload_n 0, 1) := by decide +kernel
theorem dX8_word_80 : decode cX8_word 80 = .ok (.getfield 7, 3) := by decide +kernel
theorem dX8_word_83 : decode cX8_word 83 = .ok (.bipush 6, 2) := by decide +kernel
theorem dX8_word_85 : decode cX8_word 85 = .ok (.iload_n 1, 1) := by decide +kernel
theorem dX8_word_86 : decode cX8_word 86 = .ok (.iadd, 1) := by decide +kernel
theorem dX8_word_87 : decode cX8_word 87 = .ok (.aload_n 0, 1) := by decide +kernel
theorem dX8_word_88 : decode cX8_word 88 = .ok (.getfield 147, 3) := by decide +kernel
theorem dX8_word_91 : decode cX8_word 91 = .ok (.iastore, 1) := by decide +kernel
theorem dX8_word_92 : decode cX8_word 92 = .ok (.aload_n 0, 1) := by decide +kernel
theorem dX8_word_93 : decode cX8_word 93 = .ok (.iconst 0, 1) := by decide +kernel
theorem dX8_word_94 : decode cX8_word 94 = .ok (.putfield 147, 3) := by decide +kernel
theorem dX8_word_97 : decode cX8_word 97 = .ok (.aload_n 0, 1) := by decide +kernel
theorem dX8_word_98 : decode cX8_word 98 = .ok (.getfield 7, 3) := by decide +kernel
theorem dX8_word_101 : decode cX8_word 101 = .ok (.bipush 6, 2) := by decide +kernel
theorem dX8_word_103 : decode cX8_word 103 = .ok (.iload_n 1, 1) := by decide +kernel
theorem dX8_word_104 : decode cX8_word 104 = .ok (.iadd, 1) := by decide +kernel
theorem dX8_word_105 : decode cX8_word 105 = .ok (.iaload, 1) := by decide +kernel
theorem dX8_word_106 : decode cX8_word 106 = .ok (.ireturn, 1) := by decide +kernel
theorem dX8_mapOf_0 : decode cX8_mapOf 0 = .ok (.aload_n 0, 1) := by decide +kernel
theorem dX8_mapOf_1 : decode cX8_mapOf 1 = .ok (.getfield 7, 3) := by decide +kernel
theorem dX8_mapOf_4 : decode cX8_mapOf 4 = .ok (.iconst 0, 1) := by decide +kernel
theorem dX8_mapOf_5 : decode cX8_mapOf 5 = .ok (.iload_n 1, 1) := by decide +kernel
theorem dX8_mapOf_6 : decode cX8_mapOf 6 = .ok (.iconst 2, 1) := by decide +kernel
theorem dX8_mapOf_7 : decode cX8_mapOf 7 = .ok (.idiv, 1) := by decide +kernel
theorem dX8_mapOf_8 : decode cX8_mapOf 8 = .ok (.iadd, 1) := by decide +kernel
theorem dX8_mapOf_9 : decode cX8_mapOf 9 = .ok (.iaload, 1) := by decide +kernel
theorem dX8_mapOf_10 : decode cX8_mapOf 10 = .ok (.istore_n 2, 1) := by decide +kernel
theorem dX8_mapOf_11 : decode cX8_mapOf 11 = .ok (.iload_n 1, 1) := by decide +kernel
theorem dX8_mapOf_12 : decode cX8_mapOf 12 = .ok (.iconst 2, 1) := by decide +kernel
theorem dX8_mapOf_13 : decode cX8_mapOf 13 = .ok (.irem, 1) := by decide +kernel
theorem dX8_mapOf_14 : decode cX8_mapOf 14 = .ok (.ifCond .ne 7, 3) := by decide +kernel
theorem dX8_mapOf_17 : decode cX8_mapOf 17 = .ok (.iload_n 2, 1) := by decide +kernel
theorem dX8_mapOf_18 : decode cX8_mapOf 18 = .ok (.goto 7, 3) := by decide +kernel
theorem dX8_mapOf_21 : decode cX8_mapOf 21 = .ok (.iload_n 2, 1) := by decide +kernel
theorem dX8_mapOf_22 : decode cX8_mapOf 22 = .ok (.invokestatic 106, 3) := by decide +kernel
theorem dX8_mapOf_25 : decode cX8_mapOf 25 = .ok (.ireturn, 1) := by decide +kernel
theorem dX8_value_0 : decode cX8_value 0 = .ok (.iload_n 1, 1) := by decide +kernel
theorem dX8_value_1 : decode cX8_value 1 = .ok (.invokestatic 116, 3) := by decide +kernel
theorem dX8_value_4 : decode cX8_value 4 = .ok (.ifCond .eq 10, 3) := by decide +kernel
theorem dX8_value_7 : decode cX8_value 7 = .ok (.iload_n 2, 1) := by decide +kernel
theorem dX8_value_8 : decode cX8_value 8 = .ok (.invokestatic 151, 3) := by decide +kernel
theorem dX8_value_11 : decode cX8_value 11 = .ok (.ifCond .ne 5, 3) := by decide +kernel
theorem dX8_value_14 : decode cX8_value 14 = .ok (.iconst (-1), 1) := by decide +kernel
theorem dX8_value_15 : decode cX8_value 15 = .ok (.ireturn, 1) := by decide +kernel
theorem dX8_value_16 : decode cX8_value 16 = .ok (.invokestatic 87, 3) := by decide +kernel
theorem dX8_value_19 : decode cX8_value 19 = .ok (.istore_n 3, 1) := by decide +kernel
theorem dX8_value_20 : decode cX8_value 20 = .ok (.iconst 0, 1) := by decide +kernel
theorem dX8_value_21 : decode cX8_value 21 = .ok (.istore 4, 2) := by decide +kernel
theorem dX8_value_23 : decode cX8_value 23 = .ok (.iload 4, 2) := by decide +kernel
theorem dX8_value_25 : decode cX8_value 25 = .ok (.aload_n 0, 1) := by decide +kernel
theorem dX8_value_26 : decode cX8_value 26 = .ok (.getfield 7, 3) := by decide +kernel
theorem dX8_value_29 : decode cX8_value 29 = .ok (.bipush 6, 2) := by decide +kernel
theorem dX8_value_31 : decode cX8_value 31 = .ok (.iload_n 2, 1) := by decide +kernel
theorem dX8_value_32 : decode cX8_value 32 = .ok (.iadd, 1) := by decide +kernel
theorem dX8_value_33 : decode cX8_value 33 = .ok (.iaload, 1) := by decide +kernel
theorem dX8_value_34 : decode cX8_value 34 = .ok (.if_icmp .ge 33, 3) := by decide +kernel
theorem dX8_value_37 : decode cX8_value 37 = .ok (.iload_n 3, 1) := by decide +kernel
theorem dX8_value_38 : decode cX8_value 38 = .ok (.aload_n 0, 1) := by decide +kernel
theorem dX8_value_39 : decode cX8_value 39 = .ok (.aload_n 0, 1) := by decide +kernel
theorem dX8_value_40 : decode cX8_value 40 = .ok (.getfield 7, 3) := by decide +kernel
theorem dX8_value_43 : decode cX8_value 43 = .ok (.bipush 10, 2) := by decide +kernel
theorem dX8_value_45 : decode cX8_value 45 = .ok (.bipush 12, 2) := by decide +kernel
theorem dX8_value_47 : decode cX8_value 47 = .ok (.iload_n 2, 1) := by decide +kernel
theorem dX8_value_48 : decode cX8_value 48 = .ok (.imul, 1) := by decide +kernel
theorem dX8_value_49 : decode cX8_value 49 = .ok (.iadd, 1) := by decide +kernel
theorem dX8_value_50 : decode cX8_value 50 = .ok (.iload 4, 2) := by decide +kernel
theorem dX8_value_52 : decode cX8_value 52 = .ok (.iadd, 1) := by decide +kernel
theorem dX8_value_53 : decode cX8_value 53 = .ok (.iaload, 1) := by decide +kernel
theorem dX8_value_54 : decode cX8_value 54 = .ok (.invokevirtual 157, 3) := by decide +kernel
theorem dX8_value_57 : decode cX8_value 57 = .ok (.invokestatic 122, 3) := by decide +kernel
theorem dX8_value_60 : decode cX8_value 60 = .ok (.istore_n 3, 1) := by decide +kernel
theorem dX8_value_61 : decode cX8_value 61 = .ok (.iinc 4 1, 3) := by decide +kernel
theorem dX8_value_64 : decode cX8_value 64 = .ok (.goto (-41), 3) := by decide +kernel
theorem dX8_value_67 : decode cX8_value 67 = .ok (.aload_n 0, 1) := by decide +kernel
theorem dX8_value_68 : decode cX8_value 68 = .ok (.iload_n 1, 1) := by decide +kernel
theorem dX8_value_69 : decode cX8_value 69 = .ok (.iload_n 3, 1) := by decide +kernel
theorem dX8_value_70 : decode cX8_value 70 = .ok (.invokevirtual 137, 3) := by decide +kernel
theorem dX8_value_73 : decode cX8_value 73 = .ok (.ireturn, 1) := by decide +kernel
theorem dX8_meetMap_0 : decode cX8_meetMap 0 = .ok (.aload_n 0, 1) := by decide +kernel
theorem dX8_meetMap_1 : decode cX8_meetMap 1 = .ok (.getfield 26, 3) := by decide +kernel
theorem dX8_meetMap_4 : decode cX8_meetMap 4 = .ok (.iload_n 1, 1) := by decide +kernel
theorem dX8_meetMap_5 : decode cX8_meetMap 5 = .ok (.baload, 1) := by decide +kernel
theorem dX8_meetMap_6 : decode cX8_meetMap 6 = .ok (.ifCond .ne 44, 3) := by decide +kernel
theorem dX8_meetMap_9 : decode cX8_meetMap 9 = .ok (.aload_n 0, 1) := by decide +kernel
theorem dX8_meetMap_10 : decode cX8_meetMap 10 = .ok (.getfield 26, 3) := by decide +kernel
theorem dX8_meetMap_13 : decode cX8_meetMap 13 = .ok (.iload_n 1, 1) := by decide +kernel
theorem dX8_meetMap_14 : decode cX8_meetMap 14 = .ok (.iconst 1, 1) := by decide +kernel
theorem dX8_meetMap_15 : decode cX8_meetMap 15 = .ok (.bastore, 1) := by decide +kernel
theorem dX8_meetMap_16 : decode cX8_meetMap 16 = .ok (.aload_n 0, 1) := by decide +kernel
theorem dX8_meetMap_17 : decode cX8_meetMap 17 = .ok (.getfield 29, 3) := by decide +kernel
theorem dX8_meetMap_20 : decode cX8_meetMap 20 = .ok (.iload_n 1, 1) := by decide +kernel
theorem dX8_meetMap_21 : decode cX8_meetMap 21 = .ok (.iload_n 2, 1) := by decide +kernel
theorem dX8_meetMap_22 : decode cX8_meetMap 22 = .ok (.iastore, 1) := by decide +kernel
theorem dX8_meetMap_23 : decode cX8_meetMap 23 = .ok (.aload_n 0, 1) := by decide +kernel
theorem dX8_meetMap_24 : decode cX8_meetMap 24 = .ok (.getfield 32, 3) := by decide +kernel
theorem dX8_meetMap_27 : decode cX8_meetMap 27 = .ok (.iload_n 1, 1) := by decide +kernel
theorem dX8_meetMap_28 : decode cX8_meetMap 28 = .ok (.iload_n 3, 1) := by decide +kernel
theorem dX8_meetMap_29 : decode cX8_meetMap 29 = .ok (.iastore, 1) := by decide +kernel
theorem dX8_meetMap_30 : decode cX8_meetMap 30 = .ok (.aload_n 0, 1) := by decide +kernel
theorem dX8_meetMap_31 : decode cX8_meetMap 31 = .ok (.getfield 23, 3) := by decide +kernel
theorem dX8_meetMap_34 : decode cX8_meetMap 34 = .ok (.aload_n 0, 1) := by decide +kernel
theorem dX8_meetMap_35 : decode cX8_meetMap 35 = .ok (.getfield 160, 3) := by decide +kernel
theorem dX8_meetMap_38 : decode cX8_meetMap 38 = .ok (.iload_n 1, 1) := by decide +kernel
theorem dX8_meetMap_39 : decode cX8_meetMap 39 = .ok (.iastore, 1) := by decide +kernel
theorem dX8_meetMap_40 : decode cX8_meetMap 40 = .ok (.aload_n 0, 1) := by decide +kernel
theorem dX8_meetMap_41 : decode cX8_meetMap 41 = .ok (.dup, 1) := by decide +kernel
theorem dX8_meetMap_42 : decode cX8_meetMap 42 = .ok (.getfield 160, 3) := by decide +kernel
theorem dX8_meetMap_45 : decode cX8_meetMap 45 = .ok (.iconst 1, 1) := by decide +kernel
theorem dX8_meetMap_46 : decode cX8_meetMap 46 = .ok (.iadd, 1) := by decide +kernel
theorem dX8_meetMap_47 : decode cX8_meetMap 47 = .ok (.putfield 160, 3) := by decide +kernel
theorem dX8_meetMap_50 : decode cX8_meetMap 50 = .ok (.return_, 1) := by decide +kernel
theorem dX8_layEnds_0 : decode cX8_layEnds 0 = .ok (.iconst 0, 1) := by decide +kernel
theorem dX8_layEnds_1 : decode cX8_layEnds 1 = .ok (.istore_n 1, 1) := by decide +kernel
theorem dX8_layEnds_2 : decode cX8_layEnds 2 = .ok (.iload_n 1, 1) := by decide +kernel
theorem dX8_layEnds_3 : decode cX8_layEnds 3 = .ok (.aload_n 0, 1) := by decide +kernel
theorem dX8_layEnds_4 : decode cX8_layEnds 4 = .ok (.getfield 160, 3) := by decide +kernel
theorem dX8_layEnds_7 : decode cX8_layEnds 7 = .ok (.if_icmp .ge 39, 3) := by decide +kernel
theorem dX8_layEnds_10 : decode cX8_layEnds 10 = .ok (.aload_n 0, 1) := by decide +kernel
theorem dX8_layEnds_11 : decode cX8_layEnds 11 = .ok (.getfield 35, 3) := by decide +kernel
theorem dX8_layEnds_14 : decode cX8_layEnds 14 = .ok (.iload_n 1, 1) := by decide +kernel
theorem dX8_layEnds_15 : decode cX8_layEnds 15 = .ok (.aload_n 0, 1) := by decide +kernel
theorem dX8_layEnds_16 : decode cX8_layEnds 16 = .ok (.getfield 23, 3) := by decide +kernel
theorem dX8_layEnds_19 : decode cX8_layEnds 19 = .ok (.iload_n 1, 1) := by decide +kernel
theorem dX8_layEnds_20 : decode cX8_layEnds 20 = .ok (.iaload, 1) := by decide +kernel
theorem dX8_layEnds_21 : decode cX8_layEnds 21 = .ok (.invokestatic 109, 3) := by decide +kernel
theorem dX8_layEnds_24 : decode cX8_layEnds 24 = .ok (.iastore, 1) := by decide +kernel
theorem dX8_layEnds_25 : decode cX8_layEnds 25 = .ok (.aload_n 0, 1) := by decide +kernel
theorem dX8_layEnds_26 : decode cX8_layEnds 26 = .ok (.getfield 38, 3) := by decide +kernel
theorem dX8_layEnds_29 : decode cX8_layEnds 29 = .ok (.iload_n 1, 1) := by decide +kernel
theorem dX8_layEnds_30 : decode cX8_layEnds 30 = .ok (.aload_n 0, 1) := by decide +kernel
theorem dX8_layEnds_31 : decode cX8_layEnds 31 = .ok (.getfield 23, 3) := by decide +kernel
theorem dX8_layEnds_34 : decode cX8_layEnds 34 = .ok (.iload_n 1, 1) := by decide +kernel
theorem dX8_layEnds_35 : decode cX8_layEnds 35 = .ok (.iaload, 1) := by decide +kernel
theorem dX8_layEnds_36 : decode cX8_layEnds 36 = .ok (.invokestatic 140, 3) := by decide +kernel
theorem dX8_layEnds_39 : decode cX8_layEnds 39 = .ok (.iastore, 1) := by decide +kernel
theorem dX8_layEnds_40 : decode cX8_layEnds 40 = .ok (.iinc 1 1, 3) := by decide +kernel
theorem dX8_layEnds_43 : decode cX8_layEnds 43 = .ok (.goto (-41), 3) := by decide +kernel
theorem dX8_layEnds_46 : decode cX8_layEnds 46 = .ok (.return_, 1) := by decide +kernel
theorem dX8_layMade_0 : decode cX8_layMade 0 = .ok (.aload_n 0, 1) := by decide +kernel
theorem dX8_layMade_1 : decode cX8_layMade 1 = .ok (.iconst 0, 1) := by decide +kernel
theorem dX8_layMade_2 : decode cX8_layMade 2 = .ok (.putfield 160, 3) := by decide +kernel
theorem dX8_layMade_5 : decode cX8_layMade 5 = .ok (.iconst 0, 1) := by decide +kernel
theorem dX8_layMade_6 : decode cX8_layMade 6 = .ok (.istore_n 2, 1) := by decide +kernel
theorem dX8_layMade_7 : decode cX8_layMade 7 = .ok (.iload_n 2, 1) := by decide +kernel
theorem dX8_layMade_8 : decode cX8_layMade 8 = .ok (.sipush 7776, 3) := by decide +kernel
theorem dX8_layMade_11 : decode cX8_layMade 11 = .ok (.if_icmp .ge 16, 3) := by decide +kernel
theorem dX8_layMade_14 : decode cX8_layMade 14 = .ok (.aload_n 0, 1) := by decide +kernel
theorem dX8_layMade_15 : decode cX8_layMade 15 = .ok (.getfield 26, 3) := by decide +kernel
theorem dX8_layMade_18 : decode cX8_layMade 18 = .ok (.iload_n 2, 1) := by decide +kernel
theorem dX8_layMade_19 : decode cX8_layMade 19 = .ok (.iconst 0, 1) := by decide +kernel
theorem dX8_layMade_20 : decode cX8_layMade 20 = .ok (.bastore, 1) := by decide +kernel
theorem dX8_layMade_21 : decode cX8_layMade 21 = .ok (.iinc 2 1, 3) := by decide +kernel
theorem dX8_layMade_24 : decode cX8_layMade 24 = .ok (.goto (-17), 3) := by decide +kernel
theorem dX8_layMade_27 : decode cX8_layMade 27 = .ok (.iconst 0, 1) := by decide +kernel
theorem dX8_layMade_28 : decode cX8_layMade 28 = .ok (.istore_n 2, 1) := by decide +kernel
theorem dX8_layMade_29 : decode cX8_layMade 29 = .ok (.iload_n 2, 1) := by decide +kernel
theorem dX8_layMade_30 : decode cX8_layMade 30 = .ok (.iconst 2, 1) := by decide +kernel
theorem dX8_layMade_31 : decode cX8_layMade 31 = .ok (.iload_n 1, 1) := by decide +kernel
theorem dX8_layMade_32 : decode cX8_layMade 32 = .ok (.imul, 1) := by decide +kernel
theorem dX8_layMade_33 : decode cX8_layMade 33 = .ok (.if_icmp .ge 21, 3) := by decide +kernel
theorem dX8_layMade_36 : decode cX8_layMade 36 = .ok (.aload_n 0, 1) := by decide +kernel
theorem dX8_layMade_37 : decode cX8_layMade 37 = .ok (.aload_n 0, 1) := by decide +kernel
theorem dX8_layMade_38 : decode cX8_layMade 38 = .ok (.iload_n 2, 1) := by decide +kernel
theorem dX8_layMade_39 : decode cX8_layMade 39 = .ok (.invokevirtual 157, 3) := by decide +kernel
theorem dX8_layMade_42 : decode cX8_layMade 42 = .ok (.bipush (-6), 2) := by decide +kernel
theorem dX8_layMade_44 : decode cX8_layMade 44 = .ok (.iload_n 2, 1) := by decide +kernel
theorem dX8_layMade_45 : decode cX8_layMade 45 = .ok (.invokevirtual 163, 3) := by decide +kernel
theorem dX8_layMade_48 : decode cX8_layMade 48 = .ok (.iinc 2 1, 3) := by decide +kernel
theorem dX8_layMade_51 : decode cX8_layMade 51 = .ok (.goto (-22), 3) := by decide +kernel
theorem dX8_layMade_54 : decode cX8_layMade 54 = .ok (.iconst 0, 1) := by decide +kernel
theorem dX8_layMade_55 : decode cX8_layMade 55 = .ok (.istore_n 2, 1) := by decide +kernel
theorem dX8_layMade_56 : decode cX8_layMade 56 = .ok (.iload_n 2, 1) := by decide +kernel
theorem dX8_layMade_57 : decode cX8_layMade 57 = .ok (.aload_n 0, 1) := by decide +kernel
theorem dX8_layMade_58 : decode cX8_layMade 58 = .ok (.getfield 160, 3) := by decide +kernel
theorem dX8_layMade_61 : decode cX8_layMade 61 = .ok (.if_icmp .ge 49, 3) := by decide +kernel
theorem dX8_layMade_64 : decode cX8_layMade 64 = .ok (.iconst 0, 1) := by decide +kernel
theorem dX8_layMade_65 : decode cX8_layMade 65 = .ok (.istore_n 3, 1) := by decide +kernel
theorem dX8_layMade_66 : decode cX8_layMade 66 = .ok (.iload_n 3, 1) := by decide +kernel
theorem dX8_layMade_67 : decode cX8_layMade 67 = .ok (.iconst 2, 1) := by decide +kernel
theorem dX8_layMade_68 : decode cX8_layMade 68 = .ok (.iload_n 1, 1) := by decide +kernel
theorem dX8_layMade_69 : decode cX8_layMade 69 = .ok (.imul, 1) := by decide +kernel
theorem dX8_layMade_70 : decode cX8_layMade 70 = .ok (.if_icmp .ge 34, 3) := by decide +kernel
theorem dX8_layMade_73 : decode cX8_layMade 73 = .ok (.aload_n 0, 1) := by decide +kernel
theorem dX8_layMade_74 : decode cX8_layMade 74 = .ok (.aload_n 0, 1) := by decide +kernel
theorem dX8_layMade_75 : decode cX8_layMade 75 = .ok (.getfield 23, 3) := by decide +kernel
theorem dX8_layMade_78 : decode cX8_layMade 78 = .ok (.iload_n 2, 1) := by decide +kernel
theorem dX8_layMade_79 : decode cX8_layMade 79 = .ok (.iaload, 1) := by decide +kernel
theorem dX8_layMade_80 : decode cX8_layMade 80 = .ok (.aload_n 0, 1) := by decide +kernel
theorem dX8_layMade_81 : decode cX8_layMade 81 = .ok (.iload_n 3, 1) := by decide +kernel
theorem dX8_layMade_82 : decode cX8_layMade 82 = .ok (.invokevirtual 157, 3) := by decide +kernel
theorem dX8_layMade_85 : decode cX8_layMade 85 = .ok (.invokestatic 122, 3) := by decide +kernel
theorem dX8_layMade_88 : decode cX8_layMade 88 = .ok (.aload_n 0, 1) := by decide +kernel
theorem dX8_layMade_89 : decode cX8_layMade 89 = .ok (.getfield 23, 3) := by decide +kernel
theorem dX8_layMade_92 : decode cX8_layMade 92 = .ok (.iload_n 2, 1) := by decide +kernel
theorem dX8_layMade_93 : decode cX8_layMade 93 = .ok (.iaload, 1) := by decide +kernel
theorem dX8_layMade_94 : decode cX8_layMade 94 = .ok (.iload_n 3, 1) := by decide +kernel
theorem dX8_layMade_95 : decode cX8_layMade 95 = .ok (.invokevirtual 163, 3) := by decide +kernel
theorem dX8_layMade_98 : decode cX8_layMade 98 = .ok (.iinc 3 1, 3) := by decide +kernel
theorem dX8_layMade_101 : decode cX8_layMade 101 = .ok (.goto (-35), 3) := by decide +kernel
theorem dX8_layMade_104 : decode cX8_layMade 104 = .ok (.iinc 2 1, 3) := by decide +kernel
theorem dX8_layMade_107 : decode cX8_layMade 107 = .ok (.goto (-51), 3) := by decide +kernel
theorem dX8_layMade_110 : decode cX8_layMade 110 = .ok (.return_, 1) := by decide +kernel
theorem dX8_idempotents_0 : decode cX8_idempotents 0 = .ok (.iconst 0, 1) := by decide +kernel
theorem dX8_idempotents_1 : decode cX8_idempotents 1 = .ok (.istore_n 1, 1) := by decide +kernel
theorem dX8_idempotents_2 : decode cX8_idempotents 2 = .ok (.iconst 0, 1) := by decide +kernel
theorem dX8_idempotents_3 : decode cX8_idempotents 3 = .ok (.istore_n 2, 1) := by decide +kernel
theorem dX8_idempotents_4 : decode cX8_idempotents 4 = .ok (.iload_n 2, 1) := by decide +kernel
theorem dX8_idempotents_5 : decode cX8_idempotents 5 = .ok (.aload_n 0, 1) := by decide +kernel
theorem dX8_idempotents_6 : decode cX8_idempotents 6 = .ok (.getfield 160, 3) := by decide +kernel
theorem dX8_idempotents_9 : decode cX8_idempotents 9 = .ok (.if_icmp .ge 29, 3) := by decide +kernel
theorem dX8_idempotents_12 : decode cX8_idempotents 12 = .ok (.iload_n 1, 1) := by decide +kernel
theorem dX8_idempotents_13 : decode cX8_idempotents 13 = .ok (.aload_n 0, 1) := by decide +kernel
theorem dX8_idempotents_14 : decode cX8_idempotents 14 = .ok (.getfield 23, 3) := by decide +kernel
theorem dX8_idempotents_17 : decode cX8_idempotents 17 = .ok (.iload_n 2, 1) := by decide +kernel
theorem dX8_idempotents_18 : decode cX8_idempotents 18 = .ok (.iaload, 1) := by decide +kernel
theorem dX8_idempotents_19 : decode cX8_idempotents 19 = .ok (.invokestatic 119, 3) := by decide +kernel
theorem dX8_idempotents_22 : decode cX8_idempotents 22 = .ok (.ifCond .eq 7, 3) := by decide +kernel
theorem dX8_idempotents_25 : decode cX8_idempotents 25 = .ok (.iconst 1, 1) := by decide +kernel
theorem dX8_idempotents_26 : decode cX8_idempotents 26 = .ok (.goto 4, 3) := by decide +kernel
theorem dX8_idempotents_29 : decode cX8_idempotents 29 = .ok (.iconst 0, 1) := by decide +kernel
theorem dX8_idempotents_30 : decode cX8_idempotents 30 = .ok (.iadd, 1) := by decide +kernel
theorem dX8_idempotents_31 : decode cX8_idempotents 31 = .ok (.istore_n 1, 1) := by decide +kernel
theorem dX8_idempotents_32 : decode cX8_idempotents 32 = .ok (.iinc 2 1, 3) := by decide +kernel
theorem dX8_idempotents_35 : decode cX8_idempotents 35 = .ok (.goto (-31), 3) := by decide +kernel
theorem dX8_idempotents_38 : decode cX8_idempotents 38 = .ok (.iload_n 1, 1) := by decide +kernel
theorem dX8_idempotents_39 : decode cX8_idempotents 39 = .ok (.ireturn, 1) := by decide +kernel
theorem dX8_isLeastOfKind_0 : decode cX8_isLeastOfKind 0 = .ok (.iconst 1, 1) := by decide +kernel
theorem dX8_isLeastOfKind_1 : decode cX8_isLeastOfKind 1 = .ok (.istore_n 2, 1) := by decide +kernel
theorem dX8_isLeastOfKind_2 : decode cX8_isLeastOfKind 2 = .ok (.iconst 0, 1) := by decide +kernel
theorem dX8_isLeastOfKind_3 : decode cX8_isLeastOfKind 3 = .ok (.istore_n 3, 1) := by decide +kernel
theorem dX8_isLeastOfKind_4 : decode cX8_isLeastOfKind 4 = .ok (.iload_n 3, 1) := by decide +kernel
theorem dX8_isLeastOfKind_5 : decode cX8_isLeastOfKind 5 = .ok (.aload_n 0, 1) := by decide +kernel
theorem dX8_isLeastOfKind_6 : decode cX8_isLeastOfKind 6 = .ok (.getfield 160, 3) := by decide +kernel
theorem dX8_isLeastOfKind_9 : decode cX8_isLeastOfKind 9 = .ok (.if_icmp .ge 39, 3) := by decide +kernel
theorem dX8_isLeastOfKind_12 : decode cX8_isLeastOfKind 12 = .ok (.iload_n 2, 1) := by decide +kernel
theorem dX8_isLeastOfKind_13 : decode cX8_isLeastOfKind 13 = .ok (.ifCond .eq 27, 3) := by decide +kernel
theorem dX8_isLeastOfKind_16 : decode cX8_isLeastOfKind 16 = .ok (.aload_n 0, 1) := by decide +kernel
theorem dX8_isLeastOfKind_17 : decode cX8_isLeastOfKind 17 = .ok (.getfield 35, 3) := by decide +kernel
theorem dX8_isLeastOfKind_20 : decode cX8_isLeastOfKind 20 = .ok (.iload_n 3, 1) := by decide +kernel
theorem dX8_isLeastOfKind_21 : decode cX8_isLeastOfKind 21 = .ok (.iaload, 1) := by decide +kernel
theorem dX8_isLeastOfKind_22 : decode cX8_isLeastOfKind 22 = .ok (.iload_n 1, 1) := by decide +kernel
theorem dX8_isLeastOfKind_23 : decode cX8_isLeastOfKind 23 = .ok (.if_icmp .ne 13, 3) := by decide +kernel
theorem dX8_isLeastOfKind_26 : decode cX8_isLeastOfKind 26 = .ok (.aload_n 0, 1) := by decide +kernel
theorem dX8_isLeastOfKind_27 : decode cX8_isLeastOfKind 27 = .ok (.getfield 38, 3) := by decide +kernel
theorem dX8_isLeastOfKind_30 : decode cX8_isLeastOfKind 30 = .ok (.iload_n 3, 1) := by decide +kernel
theorem dX8_isLeastOfKind_31 : decode cX8_isLeastOfKind 31 = .ok (.iaload, 1) := by decide +kernel
theorem dX8_isLeastOfKind_32 : decode cX8_isLeastOfKind 32 = .ok (.iload_n 1, 1) := by decide +kernel
theorem dX8_isLeastOfKind_33 : decode cX8_isLeastOfKind 33 = .ok (.if_icmp .lt 7, 3) := by decide +kernel
theorem dX8_isLeastOfKind_36 : decode cX8_isLeastOfKind 36 = .ok (.iconst 1, 1) := by decide +kernel
theorem dX8_isLeastOfKind_37 : decode cX8_isLeastOfKind 37 = .ok (.goto 4, 3) := by decide +kernel
theorem dX8_isLeastOfKind_40 : decode cX8_isLeastOfKind 40 = .ok (.iconst 0, 1) := by decide +kernel
theorem dX8_isLeastOfKind_41 : decode cX8_isLeastOfKind 41 = .ok (.istore_n 2, 1) := by decide +kernel
theorem dX8_isLeastOfKind_42 : decode cX8_isLeastOfKind 42 = .ok (.iinc 3 1, 3) := by decide +kernel
theorem dX8_isLeastOfKind_45 : decode cX8_isLeastOfKind 45 = .ok (.goto (-41), 3) := by decide +kernel
theorem dX8_isLeastOfKind_48 : decode cX8_isLeastOfKind 48 = .ok (.iload_n 2, 1) := by decide +kernel
theorem dX8_isLeastOfKind_49 : decode cX8_isLeastOfKind 49 = .ok (.ireturn, 1) := by decide +kernel
theorem dX8_kinds_0 : decode cX8_kinds 0 = .ok (.iconst 0, 1) := by decide +kernel
theorem dX8_kinds_1 : decode cX8_kinds 1 = .ok (.istore_n 1, 1) := by decide +kernel
theorem dX8_kinds_2 : decode cX8_kinds 2 = .ok (.iconst 0, 1) := by decide +kernel
theorem dX8_kinds_3 : decode cX8_kinds 3 = .ok (.istore_n 2, 1) := by decide +kernel
theorem dX8_kinds_4 : decode cX8_kinds 4 = .ok (.iload_n 2, 1) := by decide +kernel
theorem dX8_kinds_5 : decode cX8_kinds 5 = .ok (.aload_n 0, 1) := by decide +kernel
theorem dX8_kinds_6 : decode cX8_kinds 6 = .ok (.getfield 160, 3) := by decide +kernel
theorem dX8_kinds_9 : decode cX8_kinds 9 = .ok (.if_icmp .ge 42, 3) := by decide +kernel
theorem dX8_kinds_12 : decode cX8_kinds 12 = .ok (.iload_n 1, 1) := by decide +kernel
theorem dX8_kinds_13 : decode cX8_kinds 13 = .ok (.aload_n 0, 1) := by decide +kernel
theorem dX8_kinds_14 : decode cX8_kinds 14 = .ok (.getfield 23, 3) := by decide +kernel
theorem dX8_kinds_17 : decode cX8_kinds 17 = .ok (.iload_n 2, 1) := by decide +kernel
theorem dX8_kinds_18 : decode cX8_kinds 18 = .ok (.iaload, 1) := by decide +kernel
theorem dX8_kinds_19 : decode cX8_kinds 19 = .ok (.invokestatic 119, 3) := by decide +kernel
theorem dX8_kinds_22 : decode cX8_kinds 22 = .ok (.ifCond .eq 20, 3) := by decide +kernel
theorem dX8_kinds_25 : decode cX8_kinds 25 = .ok (.aload_n 0, 1) := by decide +kernel
theorem dX8_kinds_26 : decode cX8_kinds 26 = .ok (.aload_n 0, 1) := by decide +kernel
theorem dX8_kinds_27 : decode cX8_kinds 27 = .ok (.getfield 23, 3) := by decide +kernel
theorem dX8_kinds_30 : decode cX8_kinds 30 = .ok (.iload_n 2, 1) := by decide +kernel
theorem dX8_kinds_31 : decode cX8_kinds 31 = .ok (.iaload, 1) := by decide +kernel
theorem dX8_kinds_32 : decode cX8_kinds 32 = .ok (.invokevirtual 167, 3) := by decide +kernel
theorem dX8_kinds_35 : decode cX8_kinds 35 = .ok (.ifCond .eq 7, 3) := by decide +kernel
theorem dX8_kinds_38 : decode cX8_kinds 38 = .ok (.iconst 1, 1) := by decide +kernel
theorem dX8_kinds_39 : decode cX8_kinds 39 = .ok (.goto 4, 3) := by decide +kernel
theorem dX8_kinds_42 : decode cX8_kinds 42 = .ok (.iconst 0, 1) := by decide +kernel
theorem dX8_kinds_43 : decode cX8_kinds 43 = .ok (.iadd, 1) := by decide +kernel
theorem dX8_kinds_44 : decode cX8_kinds 44 = .ok (.istore_n 1, 1) := by decide +kernel
theorem dX8_kinds_45 : decode cX8_kinds 45 = .ok (.iinc 2 1, 3) := by decide +kernel
theorem dX8_kinds_48 : decode cX8_kinds 48 = .ok (.goto (-44), 3) := by decide +kernel
theorem dX8_kinds_51 : decode cX8_kinds 51 = .ok (.iload_n 1, 1) := by decide +kernel
theorem dX8_kinds_52 : decode cX8_kinds 52 = .ok (.ireturn, 1) := by decide +kernel
theorem dX8_groupOf_0 : decode cX8_groupOf 0 = .ok (.iconst 0, 1) := by decide +kernel
theorem dX8_groupOf_1 : decode cX8_groupOf 1 = .ok (.istore_n 2, 1) := by decide +kernel
theorem dX8_groupOf_2 : decode cX8_groupOf 2 = .ok (.iconst 0, 1) := by decide +kernel
theorem dX8_groupOf_3 : decode cX8_groupOf 3 = .ok (.istore_n 3, 1) := by decide +kernel
theorem dX8_groupOf_4 : decode cX8_groupOf 4 = .ok (.iload_n 3, 1) := by decide +kernel
theorem dX8_groupOf_5 : decode cX8_groupOf 5 = .ok (.aload_n 0, 1) := by decide +kernel
theorem dX8_groupOf_6 : decode cX8_groupOf 6 = .ok (.getfield 160, 3) := by decide +kernel
theorem dX8_groupOf_9 : decode cX8_groupOf 9 = .ok (.if_icmp .ge 37, 3) := by decide +kernel
theorem dX8_groupOf_12 : decode cX8_groupOf 12 = .ok (.iload_n 2, 1) := by decide +kernel
theorem dX8_groupOf_13 : decode cX8_groupOf 13 = .ok (.aload_n 0, 1) := by decide +kernel
theorem dX8_groupOf_14 : decode cX8_groupOf 14 = .ok (.getfield 35, 3) := by decide +kernel
theorem dX8_groupOf_17 : decode cX8_groupOf 17 = .ok (.iload_n 3, 1) := by decide +kernel
theorem dX8_groupOf_18 : decode cX8_groupOf 18 = .ok (.iaload, 1) := by decide +kernel
theorem dX8_groupOf_19 : decode cX8_groupOf 19 = .ok (.iload_n 1, 1) := by decide +kernel
theorem dX8_groupOf_20 : decode cX8_groupOf 20 = .ok (.if_icmp .ne 17, 3) := by decide +kernel
theorem dX8_groupOf_23 : decode cX8_groupOf 23 = .ok (.aload_n 0, 1) := by decide +kernel
theorem dX8_groupOf_24 : decode cX8_groupOf 24 = .ok (.getfield 38, 3) := by decide +kernel
theorem dX8_groupOf_27 : decode cX8_groupOf 27 = .ok (.iload_n 3, 1) := by decide +kernel
theorem dX8_groupOf_28 : decode cX8_groupOf 28 = .ok (.iaload, 1) := by decide +kernel
theorem dX8_groupOf_29 : decode cX8_groupOf 29 = .ok (.iload_n 1, 1) := by decide +kernel
theorem dX8_groupOf_30 : decode cX8_groupOf 30 = .ok (.if_icmp .ne 7, 3) := by decide +kernel
theorem dX8_groupOf_33 : decode cX8_groupOf 33 = .ok (.iconst 1, 1) := by decide +kernel
theorem dX8_groupOf_34 : decode cX8_groupOf 34 = .ok (.goto 4, 3) := by decide +kernel
theorem dX8_groupOf_37 : decode cX8_groupOf 37 = .ok (.iconst 0, 1) := by decide +kernel
theorem dX8_groupOf_38 : decode cX8_groupOf 38 = .ok (.iadd, 1) := by decide +kernel
theorem dX8_groupOf_39 : decode cX8_groupOf 39 = .ok (.istore_n 2, 1) := by decide +kernel
theorem dX8_groupOf_40 : decode cX8_groupOf 40 = .ok (.iinc 3 1, 3) := by decide +kernel
theorem dX8_groupOf_43 : decode cX8_groupOf 43 = .ok (.goto (-39), 3) := by decide +kernel
theorem dX8_groupOf_46 : decode cX8_groupOf 46 = .ok (.iload_n 2, 1) := by decide +kernel
theorem dX8_groupOf_47 : decode cX8_groupOf 47 = .ok (.ireturn, 1) := by decide +kernel
theorem dX8_greatestGroup_0 : decode cX8_greatestGroup 0 = .ok (.iconst 0, 1) := by decide +kernel
theorem dX8_greatestGroup_1 : decode cX8_greatestGroup 1 = .ok (.istore_n 1, 1) := by decide +kernel
theorem dX8_greatestGroup_2 : decode cX8_greatestGroup 2 = .ok (.iconst 0, 1) := by decide +kernel
theorem dX8_greatestGroup_3 : decode cX8_greatestGroup 3 = .ok (.istore_n 2, 1) := by decide +kernel
theorem dX8_greatestGroup_4 : decode cX8_greatestGroup 4 = .ok (.iload_n 2, 1) := by decide +kernel
theorem dX8_greatestGroup_5 : decode cX8_greatestGroup 5 = .ok (.aload_n 0, 1) := by decide +kernel
theorem dX8_greatestGroup_6 : decode cX8_greatestGroup 6 = .ok (.getfield 160, 3) := by decide +kernel
theorem dX8_greatestGroup_9 : decode cX8_greatestGroup 9 = .ok (.if_icmp .ge 47, 3) := by decide +kernel
theorem dX8_greatestGroup_12 : decode cX8_greatestGroup 12 = .ok (.aload_n 0, 1) := by decide +kernel
theorem dX8_greatestGroup_13 : decode cX8_greatestGroup 13 = .ok (.getfield 23, 3) := by decide +kernel
theorem dX8_greatestGroup_16 : decode cX8_greatestGroup 16 = .ok (.iload_n 2, 1) := by decide +kernel
theorem dX8_greatestGroup_17 : decode cX8_greatestGroup 17 = .ok (.iaload, 1) := by decide +kernel
theorem dX8_greatestGroup_18 : decode cX8_greatestGroup 18 = .ok (.invokestatic 119, 3) := by decide +kernel
theorem dX8_greatestGroup_21 : decode cX8_greatestGroup 21 = .ok (.ifCond .eq 16, 3) := by decide +kernel
theorem dX8_greatestGroup_24 : decode cX8_greatestGroup 24 = .ok (.aload_n 0, 1) := by decide +kernel
theorem dX8_greatestGroup_25 : decode cX8_greatestGroup 25 = .ok (.aload_n 0, 1) := by decide +kernel
theorem dX8_greatestGroup_26 : decode cX8_greatestGroup 26 = .ok (.getfield 23, 3) := by decide +kernel
theorem dX8_greatestGroup_29 : decode cX8_greatestGroup 29 = .ok (.iload_n 2, 1) := by decide +kernel
theorem dX8_greatestGroup_30 : decode cX8_greatestGroup 30 = .ok (.iaload, 1) := by decide +kernel
theorem dX8_greatestGroup_31 : decode cX8_greatestGroup 31 = .ok (.invokevirtual 170, 3) := by decide +kernel
theorem dX8_greatestGroup_34 : decode cX8_greatestGroup 34 = .ok (.goto 4, 3) := by decide +kernel
theorem dX8_greatestGroup_37 : decode cX8_greatestGroup 37 = .ok (.iconst 0, 1) := by decide +kernel
theorem dX8_greatestGroup_38 : decode cX8_greatestGroup 38 = .ok (.istore_n 3, 1) := by decide +kernel
theorem dX8_greatestGroup_39 : decode cX8_greatestGroup 39 = .ok (.iload_n 3, 1) := by decide +kernel
theorem dX8_greatestGroup_40 : decode cX8_greatestGroup 40 = .ok (.iload_n 1, 1) := by decide +kernel
theorem dX8_greatestGroup_41 : decode cX8_greatestGroup 41 = .ok (.if_icmp .le 7, 3) := by decide +kernel
theorem dX8_greatestGroup_44 : decode cX8_greatestGroup 44 = .ok (.iload_n 3, 1) := by decide +kernel
theorem dX8_greatestGroup_45 : decode cX8_greatestGroup 45 = .ok (.goto 4, 3) := by decide +kernel
theorem dX8_greatestGroup_48 : decode cX8_greatestGroup 48 = .ok (.iload_n 1, 1) := by decide +kernel
theorem dX8_greatestGroup_49 : decode cX8_greatestGroup 49 = .ok (.istore_n 1, 1) := by decide +kernel
theorem dX8_greatestGroup_50 : decode cX8_greatestGroup 50 = .ok (.iinc 2 1, 3) := by decide +kernel
theorem dX8_greatestGroup_53 : decode cX8_greatestGroup 53 = .ok (.goto (-49), 3) := by decide +kernel
theorem dX8_greatestGroup_56 : decode cX8_greatestGroup 56 = .ok (.iload_n 1, 1) := by decide +kernel
theorem dX8_greatestGroup_57 : decode cX8_greatestGroup 57 = .ok (.ireturn, 1) := by decide +kernel
theorem dX8_hasBelow_0 : decode cX8_hasBelow 0 = .ok (.iconst 0, 1) := by decide +kernel
theorem dX8_hasBelow_1 : decode cX8_hasBelow 1 = .ok (.istore_n 2, 1) := by decide +kernel
theorem dX8_hasBelow_2 : decode cX8_hasBelow 2 = .ok (.iconst 0, 1) := by decide +kernel
theorem dX8_hasBelow_3 : decode cX8_hasBelow 3 = .ok (.istore_n 3, 1) := by decide +kernel
theorem dX8_hasBelow_4 : decode cX8_hasBelow 4 = .ok (.iload_n 3, 1) := by decide +kernel
theorem dX8_hasBelow_5 : decode cX8_hasBelow 5 = .ok (.aload_n 0, 1) := by decide +kernel
theorem dX8_hasBelow_6 : decode cX8_hasBelow 6 = .ok (.getfield 160, 3) := by decide +kernel
theorem dX8_hasBelow_9 : decode cX8_hasBelow 9 = .ok (.if_icmp .ge 44, 3) := by decide +kernel
theorem dX8_hasBelow_12 : decode cX8_hasBelow 12 = .ok (.iload_n 2, 1) := by decide +kernel
theorem dX8_hasBelow_13 : decode cX8_hasBelow 13 = .ok (.ifCond .ne 40, 3) := by decide +kernel
theorem dX8_hasBelow_16 : decode cX8_hasBelow 16 = .ok (.aload_n 0, 1) := by decide +kernel
theorem dX8_hasBelow_17 : decode cX8_hasBelow 17 = .ok (.getfield 23, 3) := by decide +kernel
theorem dX8_hasBelow_20 : decode cX8_hasBelow 20 = .ok (.iload_n 3, 1) := by decide +kernel
theorem dX8_hasBelow_21 : decode cX8_hasBelow 21 = .ok (.iaload, 1) := by decide +kernel
theorem dX8_hasBelow_22 : decode cX8_hasBelow 22 = .ok (.invokestatic 119, 3) := by decide +kernel
theorem dX8_hasBelow_25 : decode cX8_hasBelow 25 = .ok (.ifCond .eq 20, 3) := by decide +kernel
theorem dX8_hasBelow_28 : decode cX8_hasBelow 28 = .ok (.aload_n 0, 1) := by decide +kernel
theorem dX8_hasBelow_29 : decode cX8_hasBelow 29 = .ok (.getfield 23, 3) := by decide +kernel
theorem dX8_hasBelow_32 : decode cX8_hasBelow 32 = .ok (.iload_n 3, 1) := by decide +kernel
theorem dX8_hasBelow_33 : decode cX8_hasBelow 33 = .ok (.iaload, 1) := by decide +kernel
theorem dX8_hasBelow_34 : decode cX8_hasBelow 34 = .ok (.iload_n 1, 1) := by decide +kernel
theorem dX8_hasBelow_35 : decode cX8_hasBelow 35 = .ok (.invokestatic 143, 3) := by decide +kernel
theorem dX8_hasBelow_38 : decode cX8_hasBelow 38 = .ok (.ifCond .eq 7, 3) := by decide +kernel
theorem dX8_hasBelow_41 : decode cX8_hasBelow 41 = .ok (.iconst 1, 1) := by decide +kernel
theorem dX8_hasBelow_42 : decode cX8_hasBelow 42 = .ok (.goto 4, 3) := by decide +kernel
theorem dX8_hasBelow_45 : decode cX8_hasBelow 45 = .ok (.iconst 0, 1) := by decide +kernel
theorem dX8_hasBelow_46 : decode cX8_hasBelow 46 = .ok (.istore_n 2, 1) := by decide +kernel
theorem dX8_hasBelow_47 : decode cX8_hasBelow 47 = .ok (.iinc 3 1, 3) := by decide +kernel
theorem dX8_hasBelow_50 : decode cX8_hasBelow 50 = .ok (.goto (-46), 3) := by decide +kernel
theorem dX8_hasBelow_53 : decode cX8_hasBelow 53 = .ok (.iload_n 2, 1) := by decide +kernel
theorem dX8_hasBelow_54 : decode cX8_hasBelow 54 = .ok (.ireturn, 1) := by decide +kernel
theorem dX8_isClean_0 : decode cX8_isClean 0 = .ok (.iconst 1, 1) := by decide +kernel
theorem dX8_isClean_1 : decode cX8_isClean 1 = .ok (.istore_n 1, 1) := by decide +kernel
theorem dX8_isClean_2 : decode cX8_isClean 2 = .ok (.iconst 0, 1) := by decide +kernel
theorem dX8_isClean_3 : decode cX8_isClean 3 = .ok (.istore_n 2, 1) := by decide +kernel
theorem dX8_isClean_4 : decode cX8_isClean 4 = .ok (.iload_n 2, 1) := by decide +kernel
theorem dX8_isClean_5 : decode cX8_isClean 5 = .ok (.aload_n 0, 1) := by decide +kernel
theorem dX8_isClean_6 : decode cX8_isClean 6 = .ok (.getfield 160, 3) := by decide +kernel
theorem dX8_isClean_9 : decode cX8_isClean 9 = .ok (.if_icmp .ge 44, 3) := by decide +kernel
theorem dX8_isClean_12 : decode cX8_isClean 12 = .ok (.iload_n 1, 1) := by decide +kernel
theorem dX8_isClean_13 : decode cX8_isClean 13 = .ok (.ifCond .eq 40, 3) := by decide +kernel
theorem dX8_isClean_16 : decode cX8_isClean 16 = .ok (.aload_n 0, 1) := by decide +kernel
theorem dX8_isClean_17 : decode cX8_isClean 17 = .ok (.getfield 23, 3) := by decide +kernel
theorem dX8_isClean_20 : decode cX8_isClean 20 = .ok (.iload_n 2, 1) := by decide +kernel
theorem dX8_isClean_21 : decode cX8_isClean 21 = .ok (.iaload, 1) := by decide +kernel
theorem dX8_isClean_22 : decode cX8_isClean 22 = .ok (.invokestatic 119, 3) := by decide +kernel
theorem dX8_isClean_25 : decode cX8_isClean 25 = .ok (.ifCond .ne 16, 3) := by decide +kernel
theorem dX8_isClean_28 : decode cX8_isClean 28 = .ok (.aload_n 0, 1) := by decide +kernel
theorem dX8_isClean_29 : decode cX8_isClean 29 = .ok (.aload_n 0, 1) := by decide +kernel
theorem dX8_isClean_30 : decode cX8_isClean 30 = .ok (.getfield 23, 3) := by decide +kernel
theorem dX8_isClean_33 : decode cX8_isClean 33 = .ok (.iload_n 2, 1) := by decide +kernel
theorem dX8_isClean_34 : decode cX8_isClean 34 = .ok (.iaload, 1) := by decide +kernel
theorem dX8_isClean_35 : decode cX8_isClean 35 = .ok (.invokevirtual 173, 3) := by decide +kernel
theorem dX8_isClean_38 : decode cX8_isClean 38 = .ok (.ifCond .ne 7, 3) := by decide +kernel
theorem dX8_isClean_41 : decode cX8_isClean 41 = .ok (.iconst 1, 1) := by decide +kernel
theorem dX8_isClean_42 : decode cX8_isClean 42 = .ok (.goto 4, 3) := by decide +kernel
theorem dX8_isClean_45 : decode cX8_isClean 45 = .ok (.iconst 0, 1) := by decide +kernel
theorem dX8_isClean_46 : decode cX8_isClean 46 = .ok (.istore_n 1, 1) := by decide +kernel
theorem dX8_isClean_47 : decode cX8_isClean 47 = .ok (.iinc 2 1, 3) := by decide +kernel
theorem dX8_isClean_50 : decode cX8_isClean 50 = .ok (.goto (-46), 3) := by decide +kernel
theorem dX8_isClean_53 : decode cX8_isClean 53 = .ok (.iload_n 1, 1) := by decide +kernel
theorem dX8_isClean_54 : decode cX8_isClean 54 = .ok (.ireturn, 1) := by decide +kernel
theorem dX8_imageGroup_0 : decode cX8_imageGroup 0 = .ok (.invokestatic 87, 3) := by decide +kernel
theorem dX8_imageGroup_3 : decode cX8_imageGroup 3 = .ok (.istore_n 1, 1) := by decide +kernel
theorem dX8_imageGroup_4 : decode cX8_imageGroup 4 = .ok (.iconst 0, 1) := by decide +kernel
theorem dX8_imageGroup_5 : decode cX8_imageGroup 5 = .ok (.istore_n 2, 1) := by decide +kernel
theorem dX8_imageGroup_6 : decode cX8_imageGroup 6 = .ok (.iload_n 2, 1) := by decide +kernel
theorem dX8_imageGroup_7 : decode cX8_imageGroup 7 = .ok (.aload_n 0, 1) := by decide +kernel
theorem dX8_imageGroup_8 : decode cX8_imageGroup 8 = .ok (.getfield 160, 3) := by decide +kernel
theorem dX8_imageGroup_11 : decode cX8_imageGroup 11 = .ok (.if_icmp .ge 36, 3) := by decide +kernel
theorem dX8_imageGroup_14 : decode cX8_imageGroup 14 = .ok (.aload_n 0, 1) := by decide +kernel
theorem dX8_imageGroup_15 : decode cX8_imageGroup 15 = .ok (.getfield 23, 3) := by decide +kernel
theorem dX8_imageGroup_18 : decode cX8_imageGroup 18 = .ok (.iload_n 2, 1) := by decide +kernel
theorem dX8_imageGroup_19 : decode cX8_imageGroup 19 = .ok (.iaload, 1) := by decide +kernel
theorem dX8_imageGroup_20 : decode cX8_imageGroup 20 = .ok (.invokestatic 119, 3) := by decide +kernel
theorem dX8_imageGroup_23 : decode cX8_imageGroup 23 = .ok (.ifCond .eq 16, 3) := by decide +kernel
theorem dX8_imageGroup_26 : decode cX8_imageGroup 26 = .ok (.iload_n 1, 1) := by decide +kernel
theorem dX8_imageGroup_27 : decode cX8_imageGroup 27 = .ok (.aload_n 0, 1) := by decide +kernel
theorem dX8_imageGroup_28 : decode cX8_imageGroup 28 = .ok (.getfield 23, 3) := by decide +kernel
theorem dX8_imageGroup_31 : decode cX8_imageGroup 31 = .ok (.iload_n 2, 1) := by decide +kernel
theorem dX8_imageGroup_32 : decode cX8_imageGroup 32 = .ok (.iaload, 1) := by decide +kernel
theorem dX8_imageGroup_33 : decode cX8_imageGroup 33 = .ok (.invokestatic 122, 3) := by decide +kernel
theorem dX8_imageGroup_36 : decode cX8_imageGroup 36 = .ok (.goto 4, 3) := by decide +kernel
theorem dX8_imageGroup_39 : decode cX8_imageGroup 39 = .ok (.iload_n 1, 1) := by decide +kernel
theorem dX8_imageGroup_40 : decode cX8_imageGroup 40 = .ok (.istore_n 1, 1) := by decide +kernel
theorem dX8_imageGroup_41 : decode cX8_imageGroup 41 = .ok (.iinc 2 1, 3) := by decide +kernel
theorem dX8_imageGroup_44 : decode cX8_imageGroup 44 = .ok (.goto (-38), 3) := by decide +kernel
theorem dX8_imageGroup_47 : decode cX8_imageGroup 47 = .ok (.iconst 0, 1) := by decide +kernel
theorem dX8_imageGroup_48 : decode cX8_imageGroup 48 = .ok (.istore_n 2, 1) := by decide +kernel
theorem dX8_imageGroup_49 : decode cX8_imageGroup 49 = .ok (.iload_n 2, 1) := by decide +kernel
theorem dX8_imageGroup_50 : decode cX8_imageGroup 50 = .ok (.sipush 7776, 3) := by decide +kernel
theorem dX8_imageGroup_53 : decode cX8_imageGroup 53 = .ok (.if_icmp .ge 16, 3) := by decide +kernel
theorem dX8_imageGroup_56 : decode cX8_imageGroup 56 = .ok (.aload_n 0, 1) := by decide +kernel
theorem dX8_imageGroup_57 : decode cX8_imageGroup 57 = .ok (.getfield 41, 3) := by decide +kernel
theorem dX8_imageGroup_60 : decode cX8_imageGroup 60 = .ok (.iload_n 2, 1) := by decide +kernel
theorem dX8_imageGroup_61 : decode cX8_imageGroup 61 = .ok (.iconst 0, 1) := by decide +kernel
theorem dX8_imageGroup_62 : decode cX8_imageGroup 62 = .ok (.bastore, 1) := by decide +kernel
theorem dX8_imageGroup_63 : decode cX8_imageGroup 63 = .ok (.iinc 2 1, 3) := by decide +kernel
theorem dX8_imageGroup_66 : decode cX8_imageGroup 66 = .ok (.goto (-17), 3) := by decide +kernel
theorem dX8_imageGroup_69 : decode cX8_imageGroup 69 = .ok (.iconst 0, 1) := by decide +kernel
theorem dX8_imageGroup_70 : decode cX8_imageGroup 70 = .ok (.istore_n 2, 1) := by decide +kernel
theorem dX8_imageGroup_71 : decode cX8_imageGroup 71 = .ok (.iconst 0, 1) := by decide +kernel
theorem dX8_imageGroup_72 : decode cX8_imageGroup 72 = .ok (.istore_n 3, 1) := by decide +kernel
theorem dX8_imageGroup_73 : decode cX8_imageGroup 73 = .ok (.iload_n 3, 1) := by decide +kernel
theorem dX8_imageGroup_74 : decode cX8_imageGroup 74 = .ok (.aload_n 0, 1) := by decide +kernel
theorem dX8_imageGroup_75 : decode cX8_imageGroup 75 = .ok (.getfield 160, 3) := by decide +kernel
theorem dX8_imageGroup_78 : decode cX8_imageGroup 78 = .ok (.if_icmp .ge 47, 3) := by decide +kernel
theorem dX8_imageGroup_81 : decode cX8_imageGroup 81 = .ok (.iload_n 1, 1) := by decide +kernel
theorem dX8_imageGroup_82 : decode cX8_imageGroup 82 = .ok (.aload_n 0, 1) := by decide +kernel
theorem dX8_imageGroup_83 : decode cX8_imageGroup 83 = .ok (.getfield 23, 3) := by decide +kernel
theorem dX8_imageGroup_86 : decode cX8_imageGroup 86 = .ok (.iload_n 3, 1) := by decide +kernel
theorem dX8_imageGroup_87 : decode cX8_imageGroup 87 = .ok (.iaload, 1) := by decide +kernel
theorem dX8_imageGroup_88 : decode cX8_imageGroup 88 = .ok (.invokestatic 122, 3) := by decide +kernel
theorem dX8_imageGroup_91 : decode cX8_imageGroup 91 = .ok (.istore 4, 2) := by decide +kernel
theorem dX8_imageGroup_93 : decode cX8_imageGroup 93 = .ok (.iload_n 2, 1) := by decide +kernel
theorem dX8_imageGroup_94 : decode cX8_imageGroup 94 = .ok (.aload_n 0, 1) := by decide +kernel
theorem dX8_imageGroup_95 : decode cX8_imageGroup 95 = .ok (.getfield 41, 3) := by decide +kernel
theorem dX8_imageGroup_98 : decode cX8_imageGroup 98 = .ok (.iload 4, 2) := by decide +kernel
theorem dX8_imageGroup_100 : decode cX8_imageGroup 100 = .ok (.baload, 1) := by decide +kernel
theorem dX8_imageGroup_101 : decode cX8_imageGroup 101 = .ok (.ifCond .eq 7, 3) := by decide +kernel
theorem dX8_imageGroup_104 : decode cX8_imageGroup 104 = .ok (.iconst 0, 1) := by decide +kernel
theorem dX8_imageGroup_105 : decode cX8_imageGroup 105 = .ok (.goto 4, 3) := by decide +kernel
theorem dX8_imageGroup_108 : decode cX8_imageGroup 108 = .ok (.iconst 1, 1) := by decide +kernel
theorem dX8_imageGroup_109 : decode cX8_imageGroup 109 = .ok (.iadd, 1) := by decide +kernel
theorem dX8_imageGroup_110 : decode cX8_imageGroup 110 = .ok (.istore_n 2, 1) := by decide +kernel
theorem dX8_imageGroup_111 : decode cX8_imageGroup 111 = .ok (.aload_n 0, 1) := by decide +kernel
theorem dX8_imageGroup_112 : decode cX8_imageGroup 112 = .ok (.getfield 41, 3) := by decide +kernel
theorem dX8_imageGroup_115 : decode cX8_imageGroup 115 = .ok (.iload 4, 2) := by decide +kernel
theorem dX8_imageGroup_117 : decode cX8_imageGroup 117 = .ok (.iconst 1, 1) := by decide +kernel
theorem dX8_imageGroup_118 : decode cX8_imageGroup 118 = .ok (.bastore, 1) := by decide +kernel
theorem dX8_imageGroup_119 : decode cX8_imageGroup 119 = .ok (.iinc 3 1, 3) := by decide +kernel
theorem dX8_imageGroup_122 : decode cX8_imageGroup 122 = .ok (.goto (-49), 3) := by decide +kernel
theorem dX8_imageGroup_125 : decode cX8_imageGroup 125 = .ok (.iload_n 2, 1) := by decide +kernel
theorem dX8_imageGroup_126 : decode cX8_imageGroup 126 = .ok (.ireturn, 1) := by decide +kernel
theorem dX8_made_0 : decode cX8_made 0 = .ok (.iload_n 1, 1) := by decide +kernel
theorem dX8_made_1 : decode cX8_made 1 = .ok (.iconst 1, 1) := by decide +kernel
theorem dX8_made_2 : decode cX8_made 2 = .ok (.iconst 3, 1) := by decide +kernel
theorem dX8_made_3 : decode cX8_made 3 = .ok (.invokestatic 91, 3) := by decide +kernel
theorem dX8_made_6 : decode cX8_made 6 = .ok (.ifCond .eq 12, 3) := by decide +kernel
theorem dX8_made_9 : decode cX8_made 9 = .ok (.iload_n 2, 1) := by decide +kernel
theorem dX8_made_10 : decode cX8_made 10 = .ok (.iconst 0, 1) := by decide +kernel
theorem dX8_made_11 : decode cX8_made 11 = .ok (.iconst 5, 1) := by decide +kernel
theorem dX8_made_12 : decode cX8_made 12 = .ok (.invokestatic 91, 3) := by decide +kernel
theorem dX8_made_15 : decode cX8_made 15 = .ok (.ifCond .ne 6, 3) := by decide +kernel
theorem dX8_made_18 : decode cX8_made 18 = .ok (.bipush (-2), 2) := by decide +kernel
theorem dX8_made_20 : decode cX8_made 20 = .ok (.ireturn, 1) := by decide +kernel
theorem dX8_made_21 : decode cX8_made 21 = .ok (.aload_n 0, 1) := by decide +kernel
theorem dX8_made_22 : decode cX8_made 22 = .ok (.iload_n 1, 1) := by decide +kernel
theorem dX8_made_23 : decode cX8_made 23 = .ok (.invokevirtual 176, 3) := by decide +kernel
theorem dX8_made_26 : decode cX8_made 26 = .ok (.aload_n 0, 1) := by decide +kernel
theorem dX8_made_27 : decode cX8_made 27 = .ok (.invokevirtual 180, 3) := by decide +kernel
theorem dX8_made_30 : decode cX8_made 30 = .ok (.iload_n 2, 1) := by decide +kernel
theorem dX8_made_31 : decode cX8_made 31 = .ok (.tableswitch 66 0 4 #[33, 38, 43, 48, 53], 33) := by decide +kernel
theorem dX8_made_64 : decode cX8_made 64 = .ok (.aload_n 0, 1) := by decide +kernel
theorem dX8_made_65 : decode cX8_made 65 = .ok (.getfield 160, 3) := by decide +kernel
theorem dX8_made_68 : decode cX8_made 68 = .ok (.ireturn, 1) := by decide +kernel
theorem dX8_made_69 : decode cX8_made 69 = .ok (.aload_n 0, 1) := by decide +kernel
theorem dX8_made_70 : decode cX8_made 70 = .ok (.invokevirtual 183, 3) := by decide +kernel
theorem dX8_made_73 : decode cX8_made 73 = .ok (.ireturn, 1) := by decide +kernel
theorem dX8_made_74 : decode cX8_made 74 = .ok (.aload_n 0, 1) := by decide +kernel
theorem dX8_made_75 : decode cX8_made 75 = .ok (.invokevirtual 186, 3) := by decide +kernel
theorem dX8_made_78 : decode cX8_made 78 = .ok (.ireturn, 1) := by decide +kernel
theorem dX8_made_79 : decode cX8_made 79 = .ok (.aload_n 0, 1) := by decide +kernel
theorem dX8_made_80 : decode cX8_made 80 = .ok (.invokevirtual 189, 3) := by decide +kernel
theorem dX8_made_83 : decode cX8_made 83 = .ok (.ireturn, 1) := by decide +kernel
theorem dX8_made_84 : decode cX8_made 84 = .ok (.aload_n 0, 1) := by decide +kernel
theorem dX8_made_85 : decode cX8_made 85 = .ok (.invokevirtual 192, 3) := by decide +kernel
theorem dX8_made_88 : decode cX8_made 88 = .ok (.ifCond .eq 7, 3) := by decide +kernel
theorem dX8_made_91 : decode cX8_made 91 = .ok (.iconst 1, 1) := by decide +kernel
theorem dX8_made_92 : decode cX8_made 92 = .ok (.goto 4, 3) := by decide +kernel
theorem dX8_made_95 : decode cX8_made 95 = .ok (.iconst 0, 1) := by decide +kernel
theorem dX8_made_96 : decode cX8_made 96 = .ok (.ireturn, 1) := by decide +kernel
theorem dX8_made_97 : decode cX8_made 97 = .ok (.aload_n 0, 1) := by decide +kernel
theorem dX8_made_98 : decode cX8_made 98 = .ok (.invokevirtual 196, 3) := by decide +kernel
theorem dX8_made_101 : decode cX8_made 101 = .ok (.ireturn, 1) := by decide +kernel
theorem dX8_way_0 : decode cX8_way 0 = .ok (.iload_n 1, 1) := by decide +kernel
theorem dX8_way_1 : decode cX8_way 1 = .ok (.iconst 1, 1) := by decide +kernel
theorem dX8_way_2 : decode cX8_way 2 = .ok (.iconst 3, 1) := by decide +kernel
theorem dX8_way_3 : decode cX8_way 3 = .ok (.invokestatic 91, 3) := by decide +kernel
theorem dX8_way_6 : decode cX8_way 6 = .ok (.ifCond .ne 6, 3) := by decide +kernel
theorem dX8_way_9 : decode cX8_way 9 = .ok (.bipush (-2), 2) := by decide +kernel
theorem dX8_way_11 : decode cX8_way 11 = .ok (.ireturn, 1) := by decide +kernel
theorem dX8_way_12 : decode cX8_way 12 = .ok (.iload_n 2, 1) := by decide +kernel
theorem dX8_way_13 : decode cX8_way 13 = .ok (.invokestatic 116, 3) := by decide +kernel
theorem dX8_way_16 : decode cX8_way 16 = .ok (.ifCond .ne 5, 3) := by decide +kernel
theorem dX8_way_19 : decode cX8_way 19 = .ok (.iconst (-1), 1) := by decide +kernel
theorem dX8_way_20 : decode cX8_way 20 = .ok (.ireturn, 1) := by decide +kernel
theorem dX8_way_21 : decode cX8_way 21 = .ok (.aload_n 0, 1) := by decide +kernel
theorem dX8_way_22 : decode cX8_way 22 = .ok (.iload_n 1, 1) := by decide +kernel
theorem dX8_way_23 : decode cX8_way 23 = .ok (.invokevirtual 176, 3) := by decide +kernel
theorem dX8_way_26 : decode cX8_way 26 = .ok (.aload_n 0, 1) := by decide +kernel
theorem dX8_way_27 : decode cX8_way 27 = .ok (.getfield 7, 3) := by decide +kernel
theorem dX8_way_30 : decode cX8_way 30 = .ok (.iconst 0, 1) := by decide +kernel
theorem dX8_way_31 : decode cX8_way 31 = .ok (.iload_n 2, 1) := by decide +kernel
theorem dX8_way_32 : decode cX8_way 32 = .ok (.iadd, 1) := by decide +kernel
theorem dX8_way_33 : decode cX8_way 33 = .ok (.iaload, 1) := by decide +kernel
theorem dX8_way_34 : decode cX8_way 34 = .ok (.istore 4, 2) := by decide +kernel
theorem dX8_way_36 : decode cX8_way 36 = .ok (.aload_n 0, 1) := by decide +kernel
theorem dX8_way_37 : decode cX8_way 37 = .ok (.getfield 26, 3) := by decide +kernel
theorem dX8_way_40 : decode cX8_way 40 = .ok (.iload 4, 2) := by decide +kernel
theorem dX8_way_42 : decode cX8_way 42 = .ok (.baload, 1) := by decide +kernel
theorem dX8_way_43 : decode cX8_way 43 = .ok (.ifCond .ne 6, 3) := by decide +kernel
theorem dX8_way_46 : decode cX8_way 46 = .ok (.bipush (-6), 2) := by decide +kernel
theorem dX8_way_48 : decode cX8_way 48 = .ok (.ireturn, 1) := by decide +kernel
theorem dX8_way_49 : decode cX8_way 49 = .ok (.iconst 0, 1) := by decide +kernel
theorem dX8_way_50 : decode cX8_way 50 = .ok (.istore 5, 2) := by decide +kernel
theorem dX8_way_52 : decode cX8_way 52 = .ok (.iload 4, 2) := by decide +kernel
theorem dX8_way_54 : decode cX8_way 54 = .ok (.istore 6, 2) := by decide +kernel
theorem dX8_way_56 : decode cX8_way 56 = .ok (.iload 6, 2) := by decide +kernel
theorem dX8_way_58 : decode cX8_way 58 = .ok (.ifCond .lt 18, 3) := by decide +kernel
theorem dX8_way_61 : decode cX8_way 61 = .ok (.iinc 5 1, 3) := by decide +kernel
theorem dX8_way_64 : decode cX8_way 64 = .ok (.aload_n 0, 1) := by decide +kernel
theorem dX8_way_65 : decode cX8_way 65 = .ok (.getfield 29, 3) := by decide +kernel
theorem dX8_way_68 : decode cX8_way 68 = .ok (.iload 6, 2) := by decide +kernel
theorem dX8_way_70 : decode cX8_way 70 = .ok (.iaload, 1) := by decide +kernel
theorem dX8_way_71 : decode cX8_way 71 = .ok (.istore 6, 2) := by decide +kernel
theorem dX8_way_73 : decode cX8_way 73 = .ok (.goto (-17), 3) := by decide +kernel
theorem dX8_way_76 : decode cX8_way 76 = .ok (.iload_n 3, 1) := by decide +kernel
theorem dX8_way_77 : decode cX8_way 77 = .ok (.iconst (-1), 1) := by decide +kernel
theorem dX8_way_78 : decode cX8_way 78 = .ok (.if_icmp .ne 6, 3) := by decide +kernel
theorem dX8_way_81 : decode cX8_way 81 = .ok (.iload 5, 2) := by decide +kernel
theorem dX8_way_83 : decode cX8_way 83 = .ok (.ireturn, 1) := by decide +kernel
theorem dX8_way_84 : decode cX8_way 84 = .ok (.iload_n 3, 1) := by decide +kernel
theorem dX8_way_85 : decode cX8_way 85 = .ok (.iconst 0, 1) := by decide +kernel
theorem dX8_way_86 : decode cX8_way 86 = .ok (.iload 5, 2) := by decide +kernel
theorem dX8_way_88 : decode cX8_way 88 = .ok (.iconst 1, 1) := by decide +kernel
theorem dX8_way_89 : decode cX8_way 89 = .ok (.isub, 1) := by decide +kernel
theorem dX8_way_90 : decode cX8_way 90 = .ok (.invokestatic 91, 3) := by decide +kernel
theorem dX8_way_93 : decode cX8_way 93 = .ok (.ifCond .ne 6, 3) := by decide +kernel
theorem dX8_way_96 : decode cX8_way 96 = .ok (.bipush (-6), 2) := by decide +kernel
theorem dX8_way_98 : decode cX8_way 98 = .ok (.ireturn, 1) := by decide +kernel
theorem dX8_way_99 : decode cX8_way 99 = .ok (.iload 4, 2) := by decide +kernel
theorem dX8_way_101 : decode cX8_way 101 = .ok (.istore 6, 2) := by decide +kernel
theorem dX8_way_103 : decode cX8_way 103 = .ok (.iload 5, 2) := by decide +kernel
theorem dX8_way_105 : decode cX8_way 105 = .ok (.iconst 1, 1) := by decide +kernel
theorem dX8_way_106 : decode cX8_way 106 = .ok (.isub, 1) := by decide +kernel
theorem dX8_way_107 : decode cX8_way 107 = .ok (.istore 7, 2) := by decide +kernel
theorem dX8_way_109 : decode cX8_way 109 = .ok (.iload 7, 2) := by decide +kernel
theorem dX8_way_111 : decode cX8_way 111 = .ok (.iload_n 3, 1) := by decide +kernel
theorem dX8_way_112 : decode cX8_way 112 = .ok (.if_icmp .le 18, 3) := by decide +kernel
theorem dX8_way_115 : decode cX8_way 115 = .ok (.aload_n 0, 1) := by decide +kernel
theorem dX8_way_116 : decode cX8_way 116 = .ok (.getfield 29, 3) := by decide +kernel
theorem dX8_way_119 : decode cX8_way 119 = .ok (.iload 6, 2) := by decide +kernel
theorem dX8_way_121 : decode cX8_way 121 = .ok (.iaload, 1) := by decide +kernel
theorem dX8_way_122 : decode cX8_way 122 = .ok (.istore 6, 2) := by decide +kernel
theorem dX8_way_124 : decode cX8_way 124 = .ok (.iinc 7 (-1), 3) := by decide +kernel
theorem dX8_way_127 : decode cX8_way 127 = .ok (.goto (-18), 3) := by decide +kernel
theorem dX8_way_130 : decode cX8_way 130 = .ok (.aload_n 0, 1) := by decide +kernel
theorem dX8_way_131 : decode cX8_way 131 = .ok (.getfield 32, 3) := by decide +kernel
theorem dX8_way_134 : decode cX8_way 134 = .ok (.iload 6, 2) := by decide +kernel
theorem dX8_way_136 : decode cX8_way 136 = .ok (.iaload, 1) := by decide +kernel
theorem dX8_way_137 : decode cX8_way 137 = .ok (.ireturn, 1) := by decide +kernel
theorem dX8_childOf_0 : decode cX8_childOf 0 = .ok (.iconst 1, 1) := by decide +kernel
theorem dX8_childOf_1 : decode cX8_childOf 1 = .ok (.istore_n 3, 1) := by decide +kernel
theorem dX8_childOf_2 : decode cX8_childOf 2 = .ok (.iload_n 3, 1) := by decide +kernel
theorem dX8_childOf_3 : decode cX8_childOf 3 = .ok (.aload_n 0, 1) := by decide +kernel
theorem dX8_childOf_4 : decode cX8_childOf 4 = .ok (.getfield 199, 3) := by decide +kernel
theorem dX8_childOf_7 : decode cX8_childOf 7 = .ok (.if_icmp .ge 31, 3) := by decide +kernel
theorem dX8_childOf_10 : decode cX8_childOf 10 = .ok (.aload_n 0, 1) := by decide +kernel
theorem dX8_childOf_11 : decode cX8_childOf 11 = .ok (.getfield 44, 3) := by decide +kernel
theorem dX8_childOf_14 : decode cX8_childOf 14 = .ok (.iload_n 3, 1) := by decide +kernel
theorem dX8_childOf_15 : decode cX8_childOf 15 = .ok (.iaload, 1) := by decide +kernel
theorem dX8_childOf_16 : decode cX8_childOf 16 = .ok (.iload_n 1, 1) := by decide +kernel
theorem dX8_childOf_17 : decode cX8_childOf 17 = .ok (.if_icmp .ne 15, 3) := by decide +kernel
theorem dX8_childOf_20 : decode cX8_childOf 20 = .ok (.aload_n 0, 1) := by decide +kernel
theorem dX8_childOf_21 : decode cX8_childOf 21 = .ok (.getfield 47, 3) := by decide +kernel
theorem dX8_childOf_24 : decode cX8_childOf 24 = .ok (.iload_n 3, 1) := by decide +kernel
theorem dX8_childOf_25 : decode cX8_childOf 25 = .ok (.iaload, 1) := by decide +kernel
theorem dX8_childOf_26 : decode cX8_childOf 26 = .ok (.iload_n 2, 1) := by decide +kernel
theorem dX8_childOf_27 : decode cX8_childOf 27 = .ok (.if_icmp .ne 5, 3) := by decide +kernel
theorem dX8_childOf_30 : decode cX8_childOf 30 = .ok (.iload_n 3, 1) := by decide +kernel
theorem dX8_childOf_31 : decode cX8_childOf 31 = .ok (.ireturn, 1) := by decide +kernel
theorem dX8_childOf_32 : decode cX8_childOf 32 = .ok (.iinc 3 1, 3) := by decide +kernel
theorem dX8_childOf_35 : decode cX8_childOf 35 = .ok (.goto (-33), 3) := by decide +kernel
theorem dX8_childOf_38 : decode cX8_childOf 38 = .ok (.aload_n 0, 1) := by decide +kernel
theorem dX8_childOf_39 : decode cX8_childOf 39 = .ok (.getfield 44, 3) := by decide +kernel
theorem dX8_childOf_42 : decode cX8_childOf 42 = .ok (.aload_n 0, 1) := by decide +kernel
theorem dX8_childOf_43 : decode cX8_childOf 43 = .ok (.getfield 199, 3) := by decide +kernel
theorem dX8_childOf_46 : decode cX8_childOf 46 = .ok (.iload_n 1, 1) := by decide +kernel
theorem dX8_childOf_47 : decode cX8_childOf 47 = .ok (.iastore, 1) := by decide +kernel
theorem dX8_childOf_48 : decode cX8_childOf 48 = .ok (.aload_n 0, 1) := by decide +kernel
theorem dX8_childOf_49 : decode cX8_childOf 49 = .ok (.getfield 47, 3) := by decide +kernel
theorem dX8_childOf_52 : decode cX8_childOf 52 = .ok (.aload_n 0, 1) := by decide +kernel
theorem dX8_childOf_53 : decode cX8_childOf 53 = .ok (.getfield 199, 3) := by decide +kernel
theorem dX8_childOf_56 : decode cX8_childOf 56 = .ok (.iload_n 2, 1) := by decide +kernel
theorem dX8_childOf_57 : decode cX8_childOf 57 = .ok (.iastore, 1) := by decide +kernel
theorem dX8_childOf_58 : decode cX8_childOf 58 = .ok (.aload_n 0, 1) := by decide +kernel
theorem dX8_childOf_59 : decode cX8_childOf 59 = .ok (.getfield 50, 3) := by decide +kernel
theorem dX8_childOf_62 : decode cX8_childOf 62 = .ok (.aload_n 0, 1) := by decide +kernel
theorem dX8_childOf_63 : decode cX8_childOf 63 = .ok (.getfield 199, 3) := by decide +kernel
theorem dX8_childOf_66 : decode cX8_childOf 66 = .ok (.aload_n 0, 1) := by decide +kernel
theorem dX8_childOf_67 : decode cX8_childOf 67 = .ok (.getfield 50, 3) := by decide +kernel
theorem dX8_childOf_70 : decode cX8_childOf 70 = .ok (.iload_n 1, 1) := by decide +kernel
theorem dX8_childOf_71 : decode cX8_childOf 71 = .ok (.iaload, 1) := by decide +kernel
theorem dX8_childOf_72 : decode cX8_childOf 72 = .ok (.iconst 1, 1) := by decide +kernel
theorem dX8_childOf_73 : decode cX8_childOf 73 = .ok (.iadd, 1) := by decide +kernel
theorem dX8_childOf_74 : decode cX8_childOf 74 = .ok (.iastore, 1) := by decide +kernel
theorem dX8_childOf_75 : decode cX8_childOf 75 = .ok (.aload_n 0, 1) := by decide +kernel
theorem dX8_childOf_76 : decode cX8_childOf 76 = .ok (.getfield 53, 3) := by decide +kernel
theorem dX8_childOf_79 : decode cX8_childOf 79 = .ok (.aload_n 0, 1) := by decide +kernel
theorem dX8_childOf_80 : decode cX8_childOf 80 = .ok (.getfield 199, 3) := by decide +kernel
theorem dX8_childOf_83 : decode cX8_childOf 83 = .ok (.ldc2_w 202, 3) := by decide +kernel
theorem dX8_childOf_86 : decode cX8_childOf 86 = .ok (.aload_n 0, 1) := by decide +kernel
theorem dX8_childOf_87 : decode cX8_childOf 87 = .ok (.getfield 53, 3) := by decide +kernel
theorem dX8_childOf_90 : decode cX8_childOf 90 = .ok (.iload_n 1, 1) := by decide +kernel
theorem dX8_childOf_91 : decode cX8_childOf 91 = .ok (.laload, 1) := by decide +kernel
theorem dX8_childOf_92 : decode cX8_childOf 92 = .ok (.lmul, 1) := by decide +kernel
theorem dX8_childOf_93 : decode cX8_childOf 93 = .ok (.iload_n 2, 1) := by decide +kernel
theorem dX8_childOf_94 : decode cX8_childOf 94 = .ok (.i2l, 1) := by decide +kernel
theorem dX8_childOf_95 : decode cX8_childOf 95 = .ok (.ladd, 1) := by decide +kernel
theorem dX8_childOf_96 : decode cX8_childOf 96 = .ok (.lconst 1, 1) := by decide +kernel
theorem dX8_childOf_97 : decode cX8_childOf 97 = .ok (.ladd, 1) := by decide +kernel
theorem dX8_childOf_98 : decode cX8_childOf 98 = .ok (.lastore, 1) := by decide +kernel
theorem dX8_childOf_99 : decode cX8_childOf 99 = .ok (.aload_n 0, 1) := by decide +kernel
theorem dX8_childOf_100 : decode cX8_childOf 100 = .ok (.dup, 1) := by decide +kernel
theorem dX8_childOf_101 : decode cX8_childOf 101 = .ok (.getfield 199, 3) := by decide +kernel
theorem dX8_childOf_104 : decode cX8_childOf 104 = .ok (.iconst 1, 1) := by decide +kernel
theorem dX8_childOf_105 : decode cX8_childOf 105 = .ok (.iadd, 1) := by decide +kernel
theorem dX8_childOf_106 : decode cX8_childOf 106 = .ok (.putfield 199, 3) := by decide +kernel
theorem dX8_childOf_109 : decode cX8_childOf 109 = .ok (.aload_n 0, 1) := by decide +kernel
theorem dX8_childOf_110 : decode cX8_childOf 110 = .ok (.getfield 199, 3) := by decide +kernel
theorem dX8_childOf_113 : decode cX8_childOf 113 = .ok (.iconst 1, 1) := by decide +kernel
theorem dX8_childOf_114 : decode cX8_childOf 114 = .ok (.isub, 1) := by decide +kernel
theorem dX8_childOf_115 : decode cX8_childOf 115 = .ok (.ireturn, 1) := by decide +kernel
theorem dX8_undone_0 : decode cX8_undone 0 = .ok (.iload_n 0, 1) := by decide +kernel
theorem dX8_undone_1 : decode cX8_undone 1 = .ok (.iconst 2, 1) := by decide +kernel
theorem dX8_undone_2 : decode cX8_undone 2 = .ok (.irem, 1) := by decide +kernel
theorem dX8_undone_3 : decode cX8_undone 3 = .ok (.ifCond .ne 9, 3) := by decide +kernel
theorem dX8_undone_6 : decode cX8_undone 6 = .ok (.iload_n 0, 1) := by decide +kernel
theorem dX8_undone_7 : decode cX8_undone 7 = .ok (.iconst 1, 1) := by decide +kernel
theorem dX8_undone_8 : decode cX8_undone 8 = .ok (.iadd, 1) := by decide +kernel
theorem dX8_undone_9 : decode cX8_undone 9 = .ok (.goto 6, 3) := by decide +kernel
theorem dX8_undone_12 : decode cX8_undone 12 = .ok (.iload_n 0, 1) := by decide +kernel
theorem dX8_undone_13 : decode cX8_undone 13 = .ok (.iconst 1, 1) := by decide +kernel
theorem dX8_undone_14 : decode cX8_undone 14 = .ok (.isub, 1) := by decide +kernel
theorem dX8_undone_15 : decode cX8_undone 15 = .ok (.ireturn, 1) := by decide +kernel
theorem dX8_layTree_0 : decode cX8_layTree 0 = .ok (.aload_n 0, 1) := by decide +kernel
theorem dX8_layTree_1 : decode cX8_layTree 1 = .ok (.iconst 1, 1) := by decide +kernel
theorem dX8_layTree_2 : decode cX8_layTree 2 = .ok (.putfield 199, 3) := by decide +kernel
theorem dX8_layTree_5 : decode cX8_layTree 5 = .ok (.aload_n 0, 1) := by decide +kernel
theorem dX8_layTree_6 : decode cX8_layTree 6 = .ok (.getfield 44, 3) := by decide +kernel
theorem dX8_layTree_9 : decode cX8_layTree 9 = .ok (.iconst 0, 1) := by decide +kernel
theorem dX8_layTree_10 : decode cX8_layTree 10 = .ok (.bipush (-6), 2) := by decide +kernel
theorem dX8_layTree_12 : decode cX8_layTree 12 = .ok (.iastore, 1) := by decide +kernel
theorem dX8_layTree_13 : decode cX8_layTree 13 = .ok (.aload_n 0, 1) := by decide +kernel
theorem dX8_layTree_14 : decode cX8_layTree 14 = .ok (.getfield 47, 3) := by decide +kernel
theorem dX8_layTree_17 : decode cX8_layTree 17 = .ok (.iconst 0, 1) := by decide +kernel
theorem dX8_layTree_18 : decode cX8_layTree 18 = .ok (.bipush (-6), 2) := by decide +kernel
theorem dX8_layTree_20 : decode cX8_layTree 20 = .ok (.iastore, 1) := by decide +kernel
theorem dX8_layTree_21 : decode cX8_layTree 21 = .ok (.aload_n 0, 1) := by decide +kernel
theorem dX8_layTree_22 : decode cX8_layTree 22 = .ok (.getfield 50, 3) := by decide +kernel
theorem dX8_layTree_25 : decode cX8_layTree 25 = .ok (.iconst 0, 1) := by decide +kernel
theorem dX8_layTree_26 : decode cX8_layTree 26 = .ok (.iconst 0, 1) := by decide +kernel
theorem dX8_layTree_27 : decode cX8_layTree 27 = .ok (.iastore, 1) := by decide +kernel
theorem dX8_layTree_28 : decode cX8_layTree 28 = .ok (.aload_n 0, 1) := by decide +kernel
theorem dX8_layTree_29 : decode cX8_layTree 29 = .ok (.getfield 53, 3) := by decide +kernel
theorem dX8_layTree_32 : decode cX8_layTree 32 = .ok (.iconst 0, 1) := by decide +kernel
theorem dX8_layTree_33 : decode cX8_layTree 33 = .ok (.lconst 0, 1) := by decide +kernel
theorem dX8_layTree_34 : decode cX8_layTree 34 = .ok (.lastore, 1) := by decide +kernel
theorem dX8_layTree_35 : decode cX8_layTree 35 = .ok (.aload_n 0, 1) := by decide +kernel
theorem dX8_layTree_36 : decode cX8_layTree 36 = .ok (.iconst 0, 1) := by decide +kernel
theorem dX8_layTree_37 : decode cX8_layTree 37 = .ok (.putfield 204, 3) := by decide +kernel
theorem dX8_layTree_40 : decode cX8_layTree 40 = .ok (.iconst 0, 1) := by decide +kernel
theorem dX8_layTree_41 : decode cX8_layTree 41 = .ok (.istore_n 2, 1) := by decide +kernel
theorem dX8_layTree_42 : decode cX8_layTree 42 = .ok (.iload_n 2, 1) := by decide +kernel
theorem dX8_layTree_43 : decode cX8_layTree 43 = .ok (.aload_n 0, 1) := by decide +kernel
theorem dX8_layTree_44 : decode cX8_layTree 44 = .ok (.getfield 7, 3) := by decide +kernel
theorem dX8_layTree_47 : decode cX8_layTree 47 = .ok (.bipush 6, 2) := by decide +kernel
theorem dX8_layTree_49 : decode cX8_layTree 49 = .ok (.iload_n 1, 1) := by decide +kernel
theorem dX8_layTree_50 : decode cX8_layTree 50 = .ok (.iadd, 1) := by decide +kernel
theorem dX8_layTree_51 : decode cX8_layTree 51 = .ok (.iaload, 1) := by decide +kernel
theorem dX8_layTree_52 : decode cX8_layTree 52 = .ok (.if_icmp .ge 72, 3) := by decide +kernel
theorem dX8_layTree_55 : decode cX8_layTree 55 = .ok (.aload_n 0, 1) := by decide +kernel
theorem dX8_layTree_56 : decode cX8_layTree 56 = .ok (.getfield 7, 3) := by decide +kernel
theorem dX8_layTree_59 : decode cX8_layTree 59 = .ok (.bipush 10, 2) := by decide +kernel
theorem dX8_layTree_61 : decode cX8_layTree 61 = .ok (.bipush 12, 2) := by decide +kernel
theorem dX8_layTree_63 : decode cX8_layTree 63 = .ok (.iload_n 1, 1) := by decide +kernel
theorem dX8_layTree_64 : decode cX8_layTree 64 = .ok (.imul, 1) := by decide +kernel
theorem dX8_layTree_65 : decode cX8_layTree 65 = .ok (.iadd, 1) := by decide +kernel
theorem dX8_layTree_66 : decode cX8_layTree 66 = .ok (.iload_n 2, 1) := by decide +kernel
theorem dX8_layTree_67 : decode cX8_layTree 67 = .ok (.iadd, 1) := by decide +kernel
theorem dX8_layTree_68 : decode cX8_layTree 68 = .ok (.iaload, 1) := by decide +kernel
theorem dX8_layTree_69 : decode cX8_layTree 69 = .ok (.istore_n 3, 1) := by decide +kernel
theorem dX8_layTree_70 : decode cX8_layTree 70 = .ok (.aload_n 0, 1) := by decide +kernel
theorem dX8_layTree_71 : decode cX8_layTree 71 = .ok (.aload_n 0, 1) := by decide +kernel
theorem dX8_layTree_72 : decode cX8_layTree 72 = .ok (.getfield 204, 3) := by decide +kernel
theorem dX8_layTree_75 : decode cX8_layTree 75 = .ok (.ifCond .le 31, 3) := by decide +kernel
theorem dX8_layTree_78 : decode cX8_layTree 78 = .ok (.aload_n 0, 1) := by decide +kernel
theorem dX8_layTree_79 : decode cX8_layTree 79 = .ok (.getfield 47, 3) := by decide +kernel
theorem dX8_layTree_82 : decode cX8_layTree 82 = .ok (.aload_n 0, 1) := by decide +kernel
theorem dX8_layTree_83 : decode cX8_layTree 83 = .ok (.getfield 204, 3) := by decide +kernel
theorem dX8_layTree_86 : decode cX8_layTree 86 = .ok (.iaload, 1) := by decide +kernel
theorem dX8_layTree_87 : decode cX8_layTree 87 = .ok (.iload_n 3, 1) := by decide +kernel
theorem dX8_layTree_88 : decode cX8_layTree 88 = .ok (.invokestatic 207, 3) := by decide +kernel
theorem dX8_layTree_91 : decode cX8_layTree 91 = .ok (.if_icmp .ne 15, 3) := by decide +kernel
theorem dX8_layTree_94 : decode cX8_layTree 94 = .ok (.aload_n 0, 1) := by decide +kernel
theorem dX8_layTree_95 : decode cX8_layTree 95 = .ok (.getfield 44, 3) := by decide +kernel
theorem dX8_layTree_98 : decode cX8_layTree 98 = .ok (.aload_n 0, 1) := by decide +kernel
theorem dX8_layTree_99 : decode cX8_layTree 99 = .ok (.getfield 204, 3) := by decide +kernel
theorem dX8_layTree_102 : decode cX8_layTree 102 = .ok (.iaload, 1) := by decide +kernel
theorem dX8_layTree_103 : decode cX8_layTree 103 = .ok (.goto 12, 3) := by decide +kernel
theorem dX8_layTree_106 : decode cX8_layTree 106 = .ok (.aload_n 0, 1) := by decide +kernel
theorem dX8_layTree_107 : decode cX8_layTree 107 = .ok (.aload_n 0, 1) := by decide +kernel
theorem dX8_layTree_108 : decode cX8_layTree 108 = .ok (.getfield 204, 3) := by decide +kernel
theorem dX8_layTree_111 : decode cX8_layTree 111 = .ok (.iload_n 3, 1) := by decide +kernel
theorem dX8_layTree_112 : decode cX8_layTree 112 = .ok (.invokevirtual 210, 3) := by decide +kernel
theorem dX8_layTree_115 : decode cX8_layTree 115 = .ok (.putfield 204, 3) := by decide +kernel
theorem dX8_layTree_118 : decode cX8_layTree 118 = .ok (.iinc 2 1, 3) := by decide +kernel
theorem dX8_layTree_121 : decode cX8_layTree 121 = .ok (.goto (-79), 3) := by decide +kernel
theorem dX8_layTree_124 : decode cX8_layTree 124 = .ok (.return_, 1) := by decide +kernel
theorem dX8_joinedTo_0 : decode cX8_joinedTo 0 = .ok (.iload_n 1, 1) := by decide +kernel
theorem dX8_joinedTo_1 : decode cX8_joinedTo 1 = .ok (.ifCond .le 7, 3) := by decide +kernel
theorem dX8_joinedTo_4 : decode cX8_joinedTo 4 = .ok (.iconst 1, 1) := by decide +kernel
theorem dX8_joinedTo_5 : decode cX8_joinedTo 5 = .ok (.goto 4, 3) := by decide +kernel
theorem dX8_joinedTo_8 : decode cX8_joinedTo 8 = .ok (.iconst 0, 1) := by decide +kernel
theorem dX8_joinedTo_9 : decode cX8_joinedTo 9 = .ok (.istore_n 2, 1) := by decide +kernel
theorem dX8_joinedTo_10 : decode cX8_joinedTo 10 = .ok (.iconst 1, 1) := by decide +kernel
theorem dX8_joinedTo_11 : decode cX8_joinedTo 11 = .ok (.istore_n 3, 1) := by decide +kernel
theorem dX8_joinedTo_12 : decode cX8_joinedTo 12 = .ok (.iload_n 3, 1) := by decide +kernel
theorem dX8_joinedTo_13 : decode cX8_joinedTo 13 = .ok (.aload_n 0, 1) := by decide +kernel
theorem dX8_joinedTo_14 : decode cX8_joinedTo 14 = .ok (.getfield 199, 3) := by decide +kernel
theorem dX8_joinedTo_17 : decode cX8_joinedTo 17 = .ok (.if_icmp .ge 27, 3) := by decide +kernel
theorem dX8_joinedTo_20 : decode cX8_joinedTo 20 = .ok (.iload_n 2, 1) := by decide +kernel
theorem dX8_joinedTo_21 : decode cX8_joinedTo 21 = .ok (.aload_n 0, 1) := by decide +kernel
theorem dX8_joinedTo_22 : decode cX8_joinedTo 22 = .ok (.getfield 44, 3) := by decide +kernel
theorem dX8_joinedTo_25 : decode cX8_joinedTo 25 = .ok (.iload_n 3, 1) := by decide +kernel
theorem dX8_joinedTo_26 : decode cX8_joinedTo 26 = .ok (.iaload, 1) := by decide +kernel
theorem dX8_joinedTo_27 : decode cX8_joinedTo 27 = .ok (.iload_n 1, 1) := by decide +kernel
theorem dX8_joinedTo_28 : decode cX8_joinedTo 28 = .ok (.if_icmp .ne 7, 3) := by decide +kernel
theorem dX8_joinedTo_31 : decode cX8_joinedTo 31 = .ok (.iconst 1, 1) := by decide +kernel
theorem dX8_joinedTo_32 : decode cX8_joinedTo 32 = .ok (.goto 4, 3) := by decide +kernel
theorem dX8_joinedTo_35 : decode cX8_joinedTo 35 = .ok (.iconst 0, 1) := by decide +kernel
theorem dX8_joinedTo_36 : decode cX8_joinedTo 36 = .ok (.iadd, 1) := by decide +kernel
theorem dX8_joinedTo_37 : decode cX8_joinedTo 37 = .ok (.istore_n 2, 1) := by decide +kernel
theorem dX8_joinedTo_38 : decode cX8_joinedTo 38 = .ok (.iinc 3 1, 3) := by decide +kernel
theorem dX8_joinedTo_41 : decode cX8_joinedTo 41 = .ok (.goto (-29), 3) := by decide +kernel
theorem dX8_joinedTo_44 : decode cX8_joinedTo 44 = .ok (.iload_n 2, 1) := by decide +kernel
theorem dX8_joinedTo_45 : decode cX8_joinedTo 45 = .ok (.ireturn, 1) := by decide +kernel
theorem dX8_toldOfTree_0 : decode cX8_toldOfTree 0 = .ok (.iconst 0, 1) := by decide +kernel
theorem dX8_toldOfTree_1 : decode cX8_toldOfTree 1 = .ok (.istore_n 2, 1) := by decide +kernel
theorem dX8_toldOfTree_2 : decode cX8_toldOfTree 2 = .ok (.iconst 0, 1) := by decide +kernel
theorem dX8_toldOfTree_3 : decode cX8_toldOfTree 3 = .ok (.istore_n 3, 1) := by decide +kernel
theorem dX8_toldOfTree_4 : decode cX8_toldOfTree 4 = .ok (.iconst 0, 1) := by decide +kernel
theorem dX8_toldOfTree_5 : decode cX8_toldOfTree 5 = .ok (.istore 4, 2) := by decide +kernel
theorem dX8_toldOfTree_7 : decode cX8_toldOfTree 7 = .ok (.iload 4, 2) := by decide +kernel
theorem dX8_toldOfTree_9 : decode cX8_toldOfTree 9 = .ok (.aload_n 0, 1) := by decide +kernel
theorem dX8_toldOfTree_10 : decode cX8_toldOfTree 10 = .ok (.getfield 199, 3) := by decide +kernel
theorem dX8_toldOfTree_13 : decode cX8_toldOfTree 13 = .ok (.if_icmp .ge 50, 3) := by decide +kernel
theorem dX8_toldOfTree_16 : decode cX8_toldOfTree 16 = .ok (.aload_n 0, 1) := by decide +kernel
theorem dX8_toldOfTree_17 : decode cX8_toldOfTree 17 = .ok (.getfield 50, 3) := by decide +kernel
theorem dX8_toldOfTree_20 : decode cX8_toldOfTree 20 = .ok (.iload 4, 2) := by decide +kernel
theorem dX8_toldOfTree_22 : decode cX8_toldOfTree 22 = .ok (.iaload, 1) := by decide +kernel
theorem dX8_toldOfTree_23 : decode cX8_toldOfTree 23 = .ok (.iload_n 2, 1) := by decide +kernel
theorem dX8_toldOfTree_24 : decode cX8_toldOfTree 24 = .ok (.if_icmp .le 13, 3) := by decide +kernel
theorem dX8_toldOfTree_27 : decode cX8_toldOfTree 27 = .ok (.aload_n 0, 1) := by decide +kernel
theorem dX8_toldOfTree_28 : decode cX8_toldOfTree 28 = .ok (.getfield 50, 3) := by decide +kernel
theorem dX8_toldOfTree_31 : decode cX8_toldOfTree 31 = .ok (.iload 4, 2) := by decide +kernel
theorem dX8_toldOfTree_33 : decode cX8_toldOfTree 33 = .ok (.iaload, 1) := by decide +kernel
theorem dX8_toldOfTree_34 : decode cX8_toldOfTree 34 = .ok (.goto 4, 3) := by decide +kernel
theorem dX8_toldOfTree_37 : decode cX8_toldOfTree 37 = .ok (.iload_n 2, 1) := by decide +kernel
theorem dX8_toldOfTree_38 : decode cX8_toldOfTree 38 = .ok (.istore_n 2, 1) := by decide +kernel
theorem dX8_toldOfTree_39 : decode cX8_toldOfTree 39 = .ok (.iload_n 3, 1) := by decide +kernel
theorem dX8_toldOfTree_40 : decode cX8_toldOfTree 40 = .ok (.aload_n 0, 1) := by decide +kernel
theorem dX8_toldOfTree_41 : decode cX8_toldOfTree 41 = .ok (.iload 4, 2) := by decide +kernel
theorem dX8_toldOfTree_43 : decode cX8_toldOfTree 43 = .ok (.invokevirtual 213, 3) := by decide +kernel
theorem dX8_toldOfTree_46 : decode cX8_toldOfTree 46 = .ok (.iconst 1, 1) := by decide +kernel
theorem dX8_toldOfTree_47 : decode cX8_toldOfTree 47 = .ok (.if_icmp .ne 7, 3) := by decide +kernel
theorem dX8_toldOfTree_50 : decode cX8_toldOfTree 50 = .ok (.iconst 1, 1) := by decide +kernel
theorem dX8_toldOfTree_51 : decode cX8_toldOfTree 51 = .ok (.goto 4, 3) := by decide +kernel
theorem dX8_toldOfTree_54 : decode cX8_toldOfTree 54 = .ok (.iconst 0, 1) := by decide +kernel
theorem dX8_toldOfTree_55 : decode cX8_toldOfTree 55 = .ok (.iadd, 1) := by decide +kernel
theorem dX8_toldOfTree_56 : decode cX8_toldOfTree 56 = .ok (.istore_n 3, 1) := by decide +kernel
theorem dX8_toldOfTree_57 : decode cX8_toldOfTree 57 = .ok (.iinc 4 1, 3) := by decide +kernel
theorem dX8_toldOfTree_60 : decode cX8_toldOfTree 60 = .ok (.goto (-53), 3) := by decide +kernel
theorem dX8_toldOfTree_63 : decode cX8_toldOfTree 63 = .ok (.iload_n 1, 1) := by decide +kernel
theorem dX8_toldOfTree_64 : decode cX8_toldOfTree 64 = .ok (.ifCond .ne 10, 3) := by decide +kernel
theorem dX8_toldOfTree_67 : decode cX8_toldOfTree 67 = .ok (.aload_n 0, 1) := by decide +kernel
theorem dX8_toldOfTree_68 : decode cX8_toldOfTree 68 = .ok (.getfield 199, 3) := by decide +kernel
theorem dX8_toldOfTree_71 : decode cX8_toldOfTree 71 = .ok (.goto 30, 3) := by decide +kernel
theorem dX8_toldOfTree_74 : decode cX8_toldOfTree 74 = .ok (.iload_n 1, 1) := by decide +kernel
theorem dX8_toldOfTree_75 : decode cX8_toldOfTree 75 = .ok (.iconst 1, 1) := by decide +kernel
theorem dX8_toldOfTree_76 : decode cX8_toldOfTree 76 = .ok (.if_icmp .ne 15, 3) := by decide +kernel
theorem dX8_toldOfTree_79 : decode cX8_toldOfTree 79 = .ok (.aload_n 0, 1) := by decide +kernel
theorem dX8_toldOfTree_80 : decode cX8_toldOfTree 80 = .ok (.getfield 50, 3) := by decide +kernel
theorem dX8_toldOfTree_83 : decode cX8_toldOfTree 83 = .ok (.aload_n 0, 1) := by decide +kernel
theorem dX8_toldOfTree_84 : decode cX8_toldOfTree 84 = .ok (.getfield 204, 3) := by decide +kernel
theorem dX8_toldOfTree_87 : decode cX8_toldOfTree 87 = .ok (.iaload, 1) := by decide +kernel
theorem dX8_toldOfTree_88 : decode cX8_toldOfTree 88 = .ok (.goto 13, 3) := by decide +kernel
theorem dX8_toldOfTree_91 : decode cX8_toldOfTree 91 = .ok (.iload_n 1, 1) := by decide +kernel
theorem dX8_toldOfTree_92 : decode cX8_toldOfTree 92 = .ok (.iconst 2, 1) := by decide +kernel
theorem dX8_toldOfTree_93 : decode cX8_toldOfTree 93 = .ok (.if_icmp .ne 7, 3) := by decide +kernel
theorem dX8_toldOfTree_96 : decode cX8_toldOfTree 96 = .ok (.iload_n 2, 1) := by decide +kernel
theorem dX8_toldOfTree_97 : decode cX8_toldOfTree 97 = .ok (.goto 4, 3) := by decide +kernel
theorem dX8_toldOfTree_100 : decode cX8_toldOfTree 100 = .ok (.iload_n 3, 1) := by decide +kernel
theorem dX8_toldOfTree_101 : decode cX8_toldOfTree 101 = .ok (.ireturn, 1) := by decide +kernel
theorem dX8_tree_0 : decode cX8_tree 0 = .ok (.iload_n 1, 1) := by decide +kernel
theorem dX8_tree_1 : decode cX8_tree 1 = .ok (.invokestatic 151, 3) := by decide +kernel
theorem dX8_tree_4 : decode cX8_tree 4 = .ok (.ifCond .ne 5, 3) := by decide +kernel
theorem dX8_tree_7 : decode cX8_tree 7 = .ok (.iconst (-1), 1) := by decide +kernel
theorem dX8_tree_8 : decode cX8_tree 8 = .ok (.ireturn, 1) := by decide +kernel
theorem dX8_tree_9 : decode cX8_tree 9 = .ok (.iload_n 2, 1) := by decide +kernel
theorem dX8_tree_10 : decode cX8_tree 10 = .ok (.iconst 0, 1) := by decide +kernel
theorem dX8_tree_11 : decode cX8_tree 11 = .ok (.iconst 3, 1) := by decide +kernel
theorem dX8_tree_12 : decode cX8_tree 12 = .ok (.invokestatic 91, 3) := by decide +kernel
theorem dX8_tree_15 : decode cX8_tree 15 = .ok (.ifCond .ne 6, 3) := by decide +kernel
theorem dX8_tree_18 : decode cX8_tree 18 = .ok (.bipush (-2), 2) := by decide +kernel
theorem dX8_tree_20 : decode cX8_tree 20 = .ok (.ireturn, 1) := by decide +kernel
theorem dX8_tree_21 : decode cX8_tree 21 = .ok (.aload_n 0, 1) := by decide +kernel
theorem dX8_tree_22 : decode cX8_tree 22 = .ok (.iload_n 1, 1) := by decide +kernel
theorem dX8_tree_23 : decode cX8_tree 23 = .ok (.invokevirtual 216, 3) := by decide +kernel
theorem dX8_tree_26 : decode cX8_tree 26 = .ok (.aload_n 0, 1) := by decide +kernel
theorem dX8_tree_27 : decode cX8_tree 27 = .ok (.iload_n 2, 1) := by decide +kernel
theorem dX8_tree_28 : decode cX8_tree 28 = .ok (.invokevirtual 219, 3) := by decide +kernel
theorem dX8_tree_31 : decode cX8_tree 31 = .ok (.ireturn, 1) := by decide +kernel
theorem dX8_isKeptRow_0 : decode cX8_isKeptRow 0 = .ok (.iconst 0, 1) := by decide +kernel
theorem dX8_isKeptRow_1 : decode cX8_isKeptRow 1 = .ok (.istore 4, 2) := by decide +kernel
theorem dX8_isKeptRow_3 : decode cX8_isKeptRow 3 = .ok (.iconst 0, 1) := by decide +kernel
theorem dX8_isKeptRow_4 : decode cX8_isKeptRow 4 = .ok (.istore 5, 2) := by decide +kernel
theorem dX8_isKeptRow_6 : decode cX8_isKeptRow 6 = .ok (.iload 5, 2) := by decide +kernel
theorem dX8_isKeptRow_8 : decode cX8_isKeptRow 8 = .ok (.iload_n 3, 1) := by decide +kernel
theorem dX8_isKeptRow_9 : decode cX8_isKeptRow 9 = .ok (.if_icmp .ge 33, 3) := by decide +kernel
theorem dX8_isKeptRow_12 : decode cX8_isKeptRow 12 = .ok (.iload 4, 2) := by decide +kernel
theorem dX8_isKeptRow_14 : decode cX8_isKeptRow 14 = .ok (.ifCond .ne 15, 3) := by decide +kernel
theorem dX8_isKeptRow_17 : decode cX8_isKeptRow 17 = .ok (.aload_n 0, 1) := by decide +kernel
theorem dX8_isKeptRow_18 : decode cX8_isKeptRow 18 = .ok (.getfield 57, 3) := by decide +kernel
theorem dX8_isKeptRow_21 : decode cX8_isKeptRow 21 = .ok (.iload 5, 2) := by decide +kernel
theorem dX8_isKeptRow_23 : decode cX8_isKeptRow 23 = .ok (.laload, 1) := by decide +kernel
theorem dX8_isKeptRow_24 : decode cX8_isKeptRow 24 = .ok (.lload_n 1, 1) := by decide +kernel
theorem dX8_isKeptRow_25 : decode cX8_isKeptRow 25 = .ok (.lcmp, 1) := by decide +kernel
theorem dX8_isKeptRow_26 : decode cX8_isKeptRow 26 = .ok (.ifCond .ne 7, 3) := by decide +kernel
theorem dX8_isKeptRow_29 : decode cX8_isKeptRow 29 = .ok (.iconst 1, 1) := by decide +kernel
theorem dX8_isKeptRow_30 : decode cX8_isKeptRow 30 = .ok (.goto 4, 3) := by decide +kernel
theorem dX8_isKeptRow_33 : decode cX8_isKeptRow 33 = .ok (.iconst 0, 1) := by decide +kernel
theorem dX8_isKeptRow_34 : decode cX8_isKeptRow 34 = .ok (.istore 4, 2) := by decide +kernel
theorem dX8_isKeptRow_36 : decode cX8_isKeptRow 36 = .ok (.iinc 5 1, 3) := by decide +kernel
theorem dX8_isKeptRow_39 : decode cX8_isKeptRow 39 = .ok (.goto (-33), 3) := by decide +kernel
theorem dX8_isKeptRow_42 : decode cX8_isKeptRow 42 = .ok (.iload 4, 2) := by decide +kernel
theorem dX8_isKeptRow_44 : decode cX8_isKeptRow 44 = .ok (.ireturn, 1) := by decide +kernel
theorem dX8_compare_0 : decode cX8_compare 0 = .ok (.iload_n 1, 1) := by decide +kernel
theorem dX8_compare_1 : decode cX8_compare 1 = .ok (.invokestatic 151, 3) := by decide +kernel
theorem dX8_compare_4 : decode cX8_compare 4 = .ok (.ifCond .eq 10, 3) := by decide +kernel
theorem dX8_compare_7 : decode cX8_compare 7 = .ok (.iload_n 2, 1) := by decide +kernel
theorem dX8_compare_8 : decode cX8_compare 8 = .ok (.invokestatic 151, 3) := by decide +kernel
theorem dX8_compare_11 : decode cX8_compare 11 = .ok (.ifCond .ne 5, 3) := by decide +kernel
theorem dX8_compare_14 : decode cX8_compare 14 = .ok (.iconst (-1), 1) := by decide +kernel
theorem dX8_compare_15 : decode cX8_compare 15 = .ok (.ireturn, 1) := by decide +kernel
theorem dX8_compare_16 : decode cX8_compare 16 = .ok (.aload_n 0, 1) := by decide +kernel
theorem dX8_compare_17 : decode cX8_compare 17 = .ok (.iload_n 1, 1) := by decide +kernel
theorem dX8_compare_18 : decode cX8_compare 18 = .ok (.invokevirtual 216, 3) := by decide +kernel
theorem dX8_compare_21 : decode cX8_compare 21 = .ok (.aload_n 0, 1) := by decide +kernel
theorem dX8_compare_22 : decode cX8_compare 22 = .ok (.getfield 199, 3) := by decide +kernel
theorem dX8_compare_25 : decode cX8_compare 25 = .ok (.istore_n 3, 1) := by decide +kernel
theorem dX8_compare_26 : decode cX8_compare 26 = .ok (.aload_n 0, 1) := by decide +kernel
theorem dX8_compare_27 : decode cX8_compare 27 = .ok (.getfield 53, 3) := by decide +kernel
theorem dX8_compare_30 : decode cX8_compare 30 = .ok (.aload_n 0, 1) := by decide +kernel
theorem dX8_compare_31 : decode cX8_compare 31 = .ok (.getfield 204, 3) := by decide +kernel
theorem dX8_compare_34 : decode cX8_compare 34 = .ok (.laload, 1) := by decide +kernel
theorem dX8_compare_35 : decode cX8_compare 35 = .ok (.lstore 4, 2) := by decide +kernel
theorem dX8_compare_37 : decode cX8_compare 37 = .ok (.iconst 0, 1) := by decide +kernel
theorem dX8_compare_38 : decode cX8_compare 38 = .ok (.istore 6, 2) := by decide +kernel
theorem dX8_compare_40 : decode cX8_compare 40 = .ok (.iload 6, 2) := by decide +kernel
theorem dX8_compare_42 : decode cX8_compare 42 = .ok (.iload_n 3, 1) := by decide +kernel
theorem dX8_compare_43 : decode cX8_compare 43 = .ok (.if_icmp .ge 23, 3) := by decide +kernel
theorem dX8_compare_46 : decode cX8_compare 46 = .ok (.aload_n 0, 1) := by decide +kernel
theorem dX8_compare_47 : decode cX8_compare 47 = .ok (.getfield 57, 3) := by decide +kernel
theorem dX8_compare_50 : decode cX8_compare 50 = .ok (.iload 6, 2) := by decide +kernel
theorem dX8_compare_52 : decode cX8_compare 52 = .ok (.aload_n 0, 1) := by decide +kernel
theorem dX8_compare_53 : decode cX8_compare 53 = .ok (.getfield 53, 3) := by decide +kernel
theorem dX8_compare_56 : decode cX8_compare 56 = .ok (.iload 6, 2) := by decide +kernel
theorem dX8_compare_58 : decode cX8_compare 58 = .ok (.laload, 1) := by decide +kernel
theorem dX8_compare_59 : decode cX8_compare 59 = .ok (.lastore, 1) := by decide +kernel
theorem dX8_compare_60 : decode cX8_compare 60 = .ok (.iinc 6 1, 3) := by decide +kernel
theorem dX8_compare_63 : decode cX8_compare 63 = .ok (.goto (-23), 3) := by decide +kernel
theorem dX8_compare_66 : decode cX8_compare 66 = .ok (.aload_n 0, 1) := by decide +kernel
theorem dX8_compare_67 : decode cX8_compare 67 = .ok (.iload_n 2, 1) := by decide +kernel
theorem dX8_compare_68 : decode cX8_compare 68 = .ok (.invokevirtual 216, 3) := by decide +kernel
theorem dX8_compare_71 : decode cX8_compare 71 = .ok (.iconst 0, 1) := by decide +kernel
theorem dX8_compare_72 : decode cX8_compare 72 = .ok (.istore 6, 2) := by decide +kernel
theorem dX8_compare_74 : decode cX8_compare 74 = .ok (.iconst 0, 1) := by decide +kernel
theorem dX8_compare_75 : decode cX8_compare 75 = .ok (.istore 7, 2) := by decide +kernel
theorem dX8_compare_77 : decode cX8_compare 77 = .ok (.iload 7, 2) := by decide +kernel
theorem dX8_compare_79 : decode cX8_compare 79 = .ok (.aload_n 0, 1) := by decide +kernel
theorem dX8_compare_80 : decode cX8_compare 80 = .ok (.getfield 199, 3) := by decide +kernel
theorem dX8_compare_83 : decode cX8_compare 83 = .ok (.if_icmp .ge 34, 3) := by decide +kernel
theorem dX8_compare_86 : decode cX8_compare 86 = .ok (.iload 6, 2) := by decide +kernel
theorem dX8_compare_88 : decode cX8_compare 88 = .ok (.aload_n 0, 1) := by decide +kernel
theorem dX8_compare_89 : decode cX8_compare 89 = .ok (.aload_n 0, 1) := by decide +kernel
theorem dX8_compare_90 : decode cX8_compare 90 = .ok (.getfield 53, 3) := by decide +kernel
theorem dX8_compare_93 : decode cX8_compare 93 = .ok (.iload 7, 2) := by decide +kernel
theorem dX8_compare_95 : decode cX8_compare 95 = .ok (.laload, 1) := by decide +kernel
theorem dX8_compare_96 : decode cX8_compare 96 = .ok (.iload_n 3, 1) := by decide +kernel
theorem dX8_compare_97 : decode cX8_compare 97 = .ok (.invokevirtual 222, 3) := by decide +kernel
theorem dX8_compare_100 : decode cX8_compare 100 = .ok (.ifCond .eq 7, 3) := by decide +kernel
theorem dX8_compare_103 : decode cX8_compare 103 = .ok (.iconst 1, 1) := by decide +kernel
theorem dX8_compare_104 : decode cX8_compare 104 = .ok (.goto 4, 3) := by decide +kernel
theorem dX8_compare_107 : decode cX8_compare 107 = .ok (.iconst 0, 1) := by decide +kernel
theorem dX8_compare_108 : decode cX8_compare 108 = .ok (.iadd, 1) := by decide +kernel
theorem dX8_compare_109 : decode cX8_compare 109 = .ok (.istore 6, 2) := by decide +kernel
theorem dX8_compare_111 : decode cX8_compare 111 = .ok (.iinc 7 1, 3) := by decide +kernel
theorem dX8_compare_114 : decode cX8_compare 114 = .ok (.goto (-37), 3) := by decide +kernel
theorem dX8_compare_117 : decode cX8_compare 117 = .ok (.aload_n 0, 1) := by decide +kernel
theorem dX8_compare_118 : decode cX8_compare 118 = .ok (.getfield 53, 3) := by decide +kernel
theorem dX8_compare_121 : decode cX8_compare 121 = .ok (.aload_n 0, 1) := by decide +kernel
theorem dX8_compare_122 : decode cX8_compare 122 = .ok (.getfield 204, 3) := by decide +kernel
theorem dX8_compare_125 : decode cX8_compare 125 = .ok (.laload, 1) := by decide +kernel
theorem dX8_compare_126 : decode cX8_compare 126 = .ok (.lload 4, 2) := by decide +kernel
theorem dX8_compare_128 : decode cX8_compare 128 = .ok (.lcmp, 1) := by decide +kernel
theorem dX8_compare_129 : decode cX8_compare 129 = .ok (.ifCond .ne 18, 3) := by decide +kernel
theorem dX8_compare_132 : decode cX8_compare 132 = .ok (.iload 6, 2) := by decide +kernel
theorem dX8_compare_134 : decode cX8_compare 134 = .ok (.aload_n 0, 1) := by decide +kernel
theorem dX8_compare_135 : decode cX8_compare 135 = .ok (.getfield 199, 3) := by decide +kernel
theorem dX8_compare_138 : decode cX8_compare 138 = .ok (.if_icmp .ge 11, 3) := by decide +kernel
theorem dX8_compare_141 : decode cX8_compare 141 = .ok (.iload 6, 2) := by decide +kernel
theorem dX8_compare_143 : decode cX8_compare 143 = .ok (.iload_n 3, 1) := by decide +kernel
theorem dX8_compare_144 : decode cX8_compare 144 = .ok (.if_icmp .ge 5, 3) := by decide +kernel
theorem dX8_compare_147 : decode cX8_compare 147 = .ok (.iconst 0, 1) := by decide +kernel
theorem dX8_compare_148 : decode cX8_compare 148 = .ok (.ireturn, 1) := by decide +kernel
theorem dX8_compare_149 : decode cX8_compare 149 = .ok (.iload 6, 2) := by decide +kernel
theorem dX8_compare_151 : decode cX8_compare 151 = .ok (.aload_n 0, 1) := by decide +kernel
theorem dX8_compare_152 : decode cX8_compare 152 = .ok (.getfield 199, 3) := by decide +kernel
theorem dX8_compare_155 : decode cX8_compare 155 = .ok (.if_icmp .ne 13, 3) := by decide +kernel
theorem dX8_compare_158 : decode cX8_compare 158 = .ok (.iload 6, 2) := by decide +kernel
theorem dX8_compare_160 : decode cX8_compare 160 = .ok (.iload_n 3, 1) := by decide +kernel
theorem dX8_compare_161 : decode cX8_compare 161 = .ok (.if_icmp .ne 7, 3) := by decide +kernel
theorem dX8_compare_164 : decode cX8_compare 164 = .ok (.iconst 1, 1) := by decide +kernel
theorem dX8_compare_165 : decode cX8_compare 165 = .ok (.goto 17, 3) := by decide +kernel
theorem dX8_compare_168 : decode cX8_compare 168 = .ok (.iload 6, 2) := by decide +kernel
theorem dX8_compare_170 : decode cX8_compare 170 = .ok (.aload_n 0, 1) := by decide +kernel
theorem dX8_compare_171 : decode cX8_compare 171 = .ok (.getfield 199, 3) := by decide +kernel
theorem dX8_compare_174 : decode cX8_compare 174 = .ok (.if_icmp .ne 7, 3) := by decide +kernel
theorem dX8_compare_177 : decode cX8_compare 177 = .ok (.iconst 2, 1) := by decide +kernel
theorem dX8_compare_178 : decode cX8_compare 178 = .ok (.goto 4, 3) := by decide +kernel
theorem dX8_compare_181 : decode cX8_compare 181 = .ok (.iconst 3, 1) := by decide +kernel
theorem dX8_compare_182 : decode cX8_compare 182 = .ok (.ireturn, 1) := by decide +kernel
theorem dX8_rule_0 : decode cX8_rule 0 = .ok (.iload_n 1, 1) := by decide +kernel
theorem dX8_rule_1 : decode cX8_rule 1 = .ok (.iconst 0, 1) := by decide +kernel
theorem dX8_rule_2 : decode cX8_rule 2 = .ok (.iconst 1, 1) := by decide +kernel
theorem dX8_rule_3 : decode cX8_rule 3 = .ok (.invokestatic 91, 3) := by decide +kernel
theorem dX8_rule_6 : decode cX8_rule 6 = .ok (.ifCond .eq 12, 3) := by decide +kernel
theorem dX8_rule_9 : decode cX8_rule 9 = .ok (.iload_n 2, 1) := by decide +kernel
theorem dX8_rule_10 : decode cX8_rule 10 = .ok (.iconst 0, 1) := by decide +kernel
theorem dX8_rule_11 : decode cX8_rule 11 = .ok (.iconst 1, 1) := by decide +kernel
theorem dX8_rule_12 : decode cX8_rule 12 = .ok (.invokestatic 91, 3) := by decide +kernel
theorem dX8_rule_15 : decode cX8_rule 15 = .ok (.ifCond .ne 6, 3) := by decide +kernel
theorem dX8_rule_18 : decode cX8_rule 18 = .ok (.bipush (-2), 2) := by decide +kernel
theorem dX8_rule_20 : decode cX8_rule 20 = .ok (.ireturn, 1) := by decide +kernel
theorem dX8_rule_21 : decode cX8_rule 21 = .ok (.iload_n 2, 1) := by decide +kernel
theorem dX8_rule_22 : decode cX8_rule 22 = .ok (.iconst 1, 1) := by decide +kernel
theorem dX8_rule_23 : decode cX8_rule 23 = .ok (.if_icmp .ne 20, 3) := by decide +kernel
theorem dX8_rule_26 : decode cX8_rule 26 = .ok (.iload_n 3, 1) := by decide +kernel
theorem dX8_rule_27 : decode cX8_rule 27 = .ok (.invokestatic 151, 3) := by decide +kernel
theorem dX8_rule_30 : decode cX8_rule 30 = .ok (.ifCond .eq 11, 3) := by decide +kernel
theorem dX8_rule_33 : decode cX8_rule 33 = .ok (.iload 4, 2) := by decide +kernel
theorem dX8_rule_35 : decode cX8_rule 35 = .ok (.invokestatic 151, 3) := by decide +kernel
theorem dX8_rule_38 : decode cX8_rule 38 = .ok (.ifCond .ne 5, 3) := by decide +kernel
theorem dX8_rule_41 : decode cX8_rule 41 = .ok (.iconst (-1), 1) := by decide +kernel
theorem dX8_rule_42 : decode cX8_rule 42 = .ok (.ireturn, 1) := by decide +kernel
theorem dX8_rule_43 : decode cX8_rule 43 = .ok (.aload_n 0, 1) := by decide +kernel
theorem dX8_rule_44 : decode cX8_rule 44 = .ok (.getfield 7, 3) := by decide +kernel
theorem dX8_rule_47 : decode cX8_rule 47 = .ok (.bipush 58, 2) := by decide +kernel
theorem dX8_rule_49 : decode cX8_rule 49 = .ok (.iload_n 1, 1) := by decide +kernel
theorem dX8_rule_50 : decode cX8_rule 50 = .ok (.iadd, 1) := by decide +kernel
theorem dX8_rule_51 : decode cX8_rule 51 = .ok (.iload_n 2, 1) := by decide +kernel
theorem dX8_rule_52 : decode cX8_rule 52 = .ok (.iastore, 1) := by decide +kernel
theorem dX8_rule_53 : decode cX8_rule 53 = .ok (.iconst 0, 1) := by decide +kernel
theorem dX8_rule_54 : decode cX8_rule 54 = .ok (.istore 5, 2) := by decide +kernel
theorem dX8_rule_56 : decode cX8_rule 56 = .ok (.iload 5, 2) := by decide +kernel
theorem dX8_rule_58 : decode cX8_rule 58 = .ok (.iconst 2, 1) := by decide +kernel
theorem dX8_rule_59 : decode cX8_rule 59 = .ok (.if_icmp .ge 103, 3) := by decide +kernel
theorem dX8_rule_62 : decode cX8_rule 62 = .ok (.iload_n 2, 1) := by decide +kernel
theorem dX8_rule_63 : decode cX8_rule 63 = .ok (.iconst 1, 1) := by decide +kernel
theorem dX8_rule_64 : decode cX8_rule 64 = .ok (.if_icmp .ne 98, 3) := by decide +kernel
theorem dX8_rule_67 : decode cX8_rule 67 = .ok (.iload 5, 2) := by decide +kernel
theorem dX8_rule_69 : decode cX8_rule 69 = .ok (.ifCond .ne 7, 3) := by decide +kernel
theorem dX8_rule_72 : decode cX8_rule 72 = .ok (.iload_n 3, 1) := by decide +kernel
theorem dX8_rule_73 : decode cX8_rule 73 = .ok (.goto 5, 3) := by decide +kernel
theorem dX8_rule_76 : decode cX8_rule 76 = .ok (.iload 4, 2) := by decide +kernel
theorem dX8_rule_78 : decode cX8_rule 78 = .ok (.istore 6, 2) := by decide +kernel
theorem dX8_rule_80 : decode cX8_rule 80 = .ok (.iconst 2, 1) := by decide +kernel
theorem dX8_rule_81 : decode cX8_rule 81 = .ok (.iload_n 1, 1) := by decide +kernel
theorem dX8_rule_82 : decode cX8_rule 82 = .ok (.imul, 1) := by decide +kernel
theorem dX8_rule_83 : decode cX8_rule 83 = .ok (.iload 5, 2) := by decide +kernel
theorem dX8_rule_85 : decode cX8_rule 85 = .ok (.iadd, 1) := by decide +kernel
theorem dX8_rule_86 : decode cX8_rule 86 = .ok (.istore 7, 2) := by decide +kernel
theorem dX8_rule_88 : decode cX8_rule 88 = .ok (.aload_n 0, 1) := by decide +kernel
theorem dX8_rule_89 : decode cX8_rule 89 = .ok (.getfield 7, 3) := by decide +kernel
theorem dX8_rule_92 : decode cX8_rule 92 = .ok (.bipush 60, 2) := by decide +kernel
theorem dX8_rule_94 : decode cX8_rule 94 = .ok (.iload 7, 2) := by decide +kernel
theorem dX8_rule_96 : decode cX8_rule 96 = .ok (.iadd, 1) := by decide +kernel
theorem dX8_rule_97 : decode cX8_rule 97 = .ok (.aload_n 0, 1) := by decide +kernel
theorem dX8_rule_98 : decode cX8_rule 98 = .ok (.getfield 7, 3) := by decide +kernel
theorem dX8_rule_101 : decode cX8_rule 101 = .ok (.bipush 6, 2) := by decide +kernel
theorem dX8_rule_103 : decode cX8_rule 103 = .ok (.iload 6, 2) := by decide +kernel
theorem dX8_rule_105 : decode cX8_rule 105 = .ok (.iadd, 1) := by decide +kernel
theorem dX8_rule_106 : decode cX8_rule 106 = .ok (.iaload, 1) := by decide +kernel
theorem dX8_rule_107 : decode cX8_rule 107 = .ok (.iastore, 1) := by decide +kernel
theorem dX8_rule_108 : decode cX8_rule 108 = .ok (.iconst 0, 1) := by decide +kernel
theorem dX8_rule_109 : decode cX8_rule 109 = .ok (.istore 8, 2) := by decide +kernel
theorem dX8_rule_111 : decode cX8_rule 111 = .ok (.iload 8, 2) := by decide +kernel
theorem dX8_rule_113 : decode cX8_rule 113 = .ok (.bipush 12, 2) := by decide +kernel
theorem dX8_rule_115 : decode cX8_rule 115 = .ok (.if_icmp .ge 41, 3) := by decide +kernel
theorem dX8_rule_118 : decode cX8_rule 118 = .ok (.aload_n 0, 1) := by decide +kernel
theorem dX8_rule_119 : decode cX8_rule 119 = .ok (.getfield 7, 3) := by decide +kernel
theorem dX8_rule_122 : decode cX8_rule 122 = .ok (.bipush 64, 2) := by decide +kernel
theorem dX8_rule_124 : decode cX8_rule 124 = .ok (.bipush 12, 2) := by decide +kernel
theorem dX8_rule_126 : decode cX8_rule 126 = .ok (.iload 7, 2) := by decide +kernel
theorem dX8_rule_128 : decode cX8_rule 128 = .ok (.imul, 1) := by decide +kernel
theorem dX8_rule_129 : decode cX8_rule 129 = .ok (.iadd, 1) := by decide +kernel
theorem dX8_rule_130 : decode cX8_rule 130 = .ok (.iload 8, 2) := by decide +kernel
theorem dX8_rule_132 : decode cX8_rule 132 = .ok (.iadd, 1) := by decide +kernel
theorem dX8_rule_133 : decode cX8_rule 133 = .ok (.aload_n 0, 1) := by decide +kernel
theorem dX8_rule_134 : decode cX8_rule 134 = .ok (.getfield 7, 3) := by decide +kernel
theorem dX8_rule_137 : decode cX8_rule 137 = .ok (.bipush 10, 2) := by decide +kernel
theorem dX8_rule_139 : decode cX8_rule 139 = .ok (.bipush 12, 2) := by decide +kernel
theorem dX8_rule_141 : decode cX8_rule 141 = .ok (.iload 6, 2) := by decide +kernel
theorem dX8_rule_143 : decode cX8_rule 143 = .ok (.imul, 1) := by decide +kernel
theorem dX8_rule_144 : decode cX8_rule 144 = .ok (.iadd, 1) := by decide +kernel
theorem dX8_rule_145 : decode cX8_rule 145 = .ok (.iload 8, 2) := by decide +kernel
theorem dX8_rule_147 : decode cX8_rule 147 = .ok (.iadd, 1) := by decide +kernel
theorem dX8_rule_148 : decode cX8_rule 148 = .ok (.iaload, 1) := by decide +kernel
theorem dX8_rule_149 : decode cX8_rule 149 = .ok (.iastore, 1) := by decide +kernel
theorem dX8_rule_150 : decode cX8_rule 150 = .ok (.iinc 8 1, 3) := by decide +kernel
theorem dX8_rule_153 : decode cX8_rule 153 = .ok (.goto (-42), 3) := by decide +kernel
theorem dX8_rule_156 : decode cX8_rule 156 = .ok (.iinc 5 1, 3) := by decide +kernel
theorem dX8_rule_159 : decode cX8_rule 159 = .ok (.goto (-103), 3) := by decide +kernel
theorem dX8_rule_162 : decode cX8_rule 162 = .ok (.aload_n 0, 1) := by decide +kernel
theorem dX8_rule_163 : decode cX8_rule 163 = .ok (.getfield 7, 3) := by decide +kernel
theorem dX8_rule_166 : decode cX8_rule 166 = .ok (.bipush 58, 2) := by decide +kernel
theorem dX8_rule_168 : decode cX8_rule 168 = .ok (.iaload, 1) := by decide +kernel
theorem dX8_rule_169 : decode cX8_rule 169 = .ok (.aload_n 0, 1) := by decide +kernel
theorem dX8_rule_170 : decode cX8_rule 170 = .ok (.getfield 7, 3) := by decide +kernel
theorem dX8_rule_173 : decode cX8_rule 173 = .ok (.bipush 59, 2) := by decide +kernel
theorem dX8_rule_175 : decode cX8_rule 175 = .ok (.iaload, 1) := by decide +kernel
theorem dX8_rule_176 : decode cX8_rule 176 = .ok (.iadd, 1) := by decide +kernel
theorem dX8_rule_177 : decode cX8_rule 177 = .ok (.ireturn, 1) := by decide +kernel
theorem dX8_oneOf_0 : decode cX8_oneOf 0 = .ok (.iload_n 1, 1) := by decide +kernel
theorem dX8_oneOf_1 : decode cX8_oneOf 1 = .ok (.istore_n 2, 1) := by decide +kernel
theorem dX8_oneOf_2 : decode cX8_oneOf 2 = .ok (.aload_n 0, 1) := by decide +kernel
theorem dX8_oneOf_3 : decode cX8_oneOf 3 = .ok (.getfield 69, 3) := by decide +kernel
theorem dX8_oneOf_6 : decode cX8_oneOf 6 = .ok (.iload_n 2, 1) := by decide +kernel
theorem dX8_oneOf_7 : decode cX8_oneOf 7 = .ok (.iaload, 1) := by decide +kernel
theorem dX8_oneOf_8 : decode cX8_oneOf 8 = .ok (.iload_n 2, 1) := by decide +kernel
theorem dX8_oneOf_9 : decode cX8_oneOf 9 = .ok (.if_icmp .eq 30, 3) := by decide +kernel
theorem dX8_oneOf_12 : decode cX8_oneOf 12 = .ok (.aload_n 0, 1) := by decide +kernel
theorem dX8_oneOf_13 : decode cX8_oneOf 13 = .ok (.getfield 69, 3) := by decide +kernel
theorem dX8_oneOf_16 : decode cX8_oneOf 16 = .ok (.iload_n 2, 1) := by decide +kernel
theorem dX8_oneOf_17 : decode cX8_oneOf 17 = .ok (.aload_n 0, 1) := by decide +kernel
theorem dX8_oneOf_18 : decode cX8_oneOf 18 = .ok (.getfield 69, 3) := by decide +kernel
theorem dX8_oneOf_21 : decode cX8_oneOf 21 = .ok (.aload_n 0, 1) := by decide +kernel
theorem dX8_oneOf_22 : decode cX8_oneOf 22 = .ok (.getfield 69, 3) := by decide +kernel
theorem dX8_oneOf_25 : decode cX8_oneOf 25 = .ok (.iload_n 2, 1) := by decide +kernel
theorem dX8_oneOf_26 : decode cX8_oneOf 26 = .ok (.iaload, 1) := by decide +kernel
theorem dX8_oneOf_27 : decode cX8_oneOf 27 = .ok (.iaload, 1) := by decide +kernel
theorem dX8_oneOf_28 : decode cX8_oneOf 28 = .ok (.iastore, 1) := by decide +kernel
theorem dX8_oneOf_29 : decode cX8_oneOf 29 = .ok (.aload_n 0, 1) := by decide +kernel
theorem dX8_oneOf_30 : decode cX8_oneOf 30 = .ok (.getfield 69, 3) := by decide +kernel
theorem dX8_oneOf_33 : decode cX8_oneOf 33 = .ok (.iload_n 2, 1) := by decide +kernel
theorem dX8_oneOf_34 : decode cX8_oneOf 34 = .ok (.iaload, 1) := by decide +kernel
theorem dX8_oneOf_35 : decode cX8_oneOf 35 = .ok (.istore_n 2, 1) := by decide +kernel
theorem dX8_oneOf_36 : decode cX8_oneOf 36 = .ok (.goto (-34), 3) := by decide +kernel
theorem dX8_oneOf_39 : decode cX8_oneOf 39 = .ok (.iload_n 2, 1) := by decide +kernel
theorem dX8_oneOf_40 : decode cX8_oneOf 40 = .ok (.ireturn, 1) := by decide +kernel
theorem dX8_newPlace_0 : decode cX8_newPlace 0 = .ok (.aload_n 0, 1) := by decide +kernel
theorem dX8_newPlace_1 : decode cX8_newPlace 1 = .ok (.getfield 69, 3) := by decide +kernel
theorem dX8_newPlace_4 : decode cX8_newPlace 4 = .ok (.aload_n 0, 1) := by decide +kernel
theorem dX8_newPlace_5 : decode cX8_newPlace 5 = .ok (.getfield 226, 3) := by decide +kernel
theorem dX8_newPlace_8 : decode cX8_newPlace 8 = .ok (.aload_n 0, 1) := by decide +kernel
theorem dX8_newPlace_9 : decode cX8_newPlace 9 = .ok (.getfield 226, 3) := by decide +kernel
theorem dX8_newPlace_12 : decode cX8_newPlace 12 = .ok (.iastore, 1) := by decide +kernel
theorem dX8_newPlace_13 : decode cX8_newPlace 13 = .ok (.aload_n 0, 1) := by decide +kernel
theorem dX8_newPlace_14 : decode cX8_newPlace 14 = .ok (.dup, 1) := by decide +kernel
theorem dX8_newPlace_15 : decode cX8_newPlace 15 = .ok (.getfield 226, 3) := by decide +kernel
theorem dX8_newPlace_18 : decode cX8_newPlace 18 = .ok (.iconst 1, 1) := by decide +kernel
theorem dX8_newPlace_19 : decode cX8_newPlace 19 = .ok (.iadd, 1) := by decide +kernel
theorem dX8_newPlace_20 : decode cX8_newPlace 20 = .ok (.putfield 226, 3) := by decide +kernel
theorem dX8_newPlace_23 : decode cX8_newPlace 23 = .ok (.aload_n 0, 1) := by decide +kernel
theorem dX8_newPlace_24 : decode cX8_newPlace 24 = .ok (.getfield 226, 3) := by decide +kernel
theorem dX8_newPlace_27 : decode cX8_newPlace 27 = .ok (.iconst 1, 1) := by decide +kernel
theorem dX8_newPlace_28 : decode cX8_newPlace 28 = .ok (.isub, 1) := by decide +kernel
theorem dX8_newPlace_29 : decode cX8_newPlace 29 = .ok (.ireturn, 1) := by decide +kernel
theorem dX8_addJoint_0 : decode cX8_addJoint 0 = .ok (.aload_n 0, 1) := by decide +kernel
theorem dX8_addJoint_1 : decode cX8_addJoint 1 = .ok (.getfield 60, 3) := by decide +kernel
theorem dX8_addJoint_4 : decode cX8_addJoint 4 = .ok (.aload_n 0, 1) := by decide +kernel
theorem dX8_addJoint_5 : decode cX8_addJoint 5 = .ok (.getfield 229, 3) := by decide +kernel
theorem dX8_addJoint_8 : decode cX8_addJoint 8 = .ok (.iload_n 2, 1) := by decide +kernel
theorem dX8_addJoint_9 : decode cX8_addJoint 9 = .ok (.iconst 2, 1) := by decide +kernel
theorem dX8_addJoint_10 : decode cX8_addJoint 10 = .ok (.irem, 1) := by decide +kernel
theorem dX8_addJoint_11 : decode cX8_addJoint 11 = .ok (.ifCond .ne 7, 3) := by decide +kernel
theorem dX8_addJoint_14 : decode cX8_addJoint 14 = .ok (.iload_n 1, 1) := by decide +kernel
theorem dX8_addJoint_15 : decode cX8_addJoint 15 = .ok (.goto 4, 3) := by decide +kernel
theorem dX8_addJoint_18 : decode cX8_addJoint 18 = .ok (.iload_n 3, 1) := by decide +kernel
theorem dX8_addJoint_19 : decode cX8_addJoint 19 = .ok (.iastore, 1) := by decide +kernel
theorem dX8_addJoint_20 : decode cX8_addJoint 20 = .ok (.aload_n 0, 1) := by decide +kernel
theorem dX8_addJoint_21 : decode cX8_addJoint 21 = .ok (.getfield 63, 3) := by decide +kernel
theorem dX8_addJoint_24 : decode cX8_addJoint 24 = .ok (.aload_n 0, 1) := by decide +kernel
theorem dX8_addJoint_25 : decode cX8_addJoint 25 = .ok (.getfield 229, 3) := by decide +kernel
theorem dX8_addJoint_28 : decode cX8_addJoint 28 = .ok (.iload_n 2, 1) := by decide +kernel
theorem dX8_addJoint_29 : decode cX8_addJoint 29 = .ok (.iconst 2, 1) := by decide +kernel
theorem dX8_addJoint_30 : decode cX8_addJoint 30 = .ok (.idiv, 1) := by decide +kernel
theorem dX8_addJoint_31 : decode cX8_addJoint 31 = .ok (.iastore, 1) := by decide +kernel
theorem dX8_addJoint_32 : decode cX8_addJoint 32 = .ok (.aload_n 0, 1) := by decide +kernel
theorem dX8_addJoint_33 : decode cX8_addJoint 33 = .ok (.getfield 66, 3) := by decide +kernel
theorem dX8_addJoint_36 : decode cX8_addJoint 36 = .ok (.aload_n 0, 1) := by decide +kernel
theorem dX8_addJoint_37 : decode cX8_addJoint 37 = .ok (.getfield 229, 3) := by decide +kernel
theorem dX8_addJoint_40 : decode cX8_addJoint 40 = .ok (.iload_n 2, 1) := by decide +kernel
theorem dX8_addJoint_41 : decode cX8_addJoint 41 = .ok (.iconst 2, 1) := by decide +kernel
theorem dX8_addJoint_42 : decode cX8_addJoint 42 = .ok (.irem, 1) := by decide +kernel
theorem dX8_addJoint_43 : decode cX8_addJoint 43 = .ok (.ifCond .ne 7, 3) := by decide +kernel
theorem dX8_addJoint_46 : decode cX8_addJoint 46 = .ok (.iload_n 3, 1) := by decide +kernel
theorem dX8_addJoint_47 : decode cX8_addJoint 47 = .ok (.goto 4, 3) := by decide +kernel
theorem dX8_addJoint_50 : decode cX8_addJoint 50 = .ok (.iload_n 1, 1) := by decide +kernel
theorem dX8_addJoint_51 : decode cX8_addJoint 51 = .ok (.iastore, 1) := by decide +kernel
theorem dX8_addJoint_52 : decode cX8_addJoint 52 = .ok (.aload_n 0, 1) := by decide +kernel
theorem dX8_addJoint_53 : decode cX8_addJoint 53 = .ok (.dup, 1) := by decide +kernel
theorem dX8_addJoint_54 : decode cX8_addJoint 54 = .ok (.getfield 229, 3) := by decide +kernel
theorem dX8_addJoint_57 : decode cX8_addJoint 57 = .ok (.iconst 1, 1) := by decide +kernel
theorem dX8_addJoint_58 : decode cX8_addJoint 58 = .ok (.iadd, 1) := by decide +kernel
theorem dX8_addJoint_59 : decode cX8_addJoint 59 = .ok (.putfield 229, 3) := by decide +kernel
theorem dX8_addJoint_62 : decode cX8_addJoint 62 = .ok (.return_, 1) := by decide +kernel
theorem dX8_fold_0 : decode cX8_fold 0 = .ok (.aload_n 0, 1) := by decide +kernel
theorem dX8_fold_1 : decode cX8_fold 1 = .ok (.getfield 75, 3) := by decide +kernel
theorem dX8_fold_4 : decode cX8_fold 4 = .ok (.bipush 6, 2) := by decide +kernel
theorem dX8_fold_6 : decode cX8_fold 6 = .ok (.iload_n 1, 1) := by decide +kernel
theorem dX8_fold_7 : decode cX8_fold 7 = .ok (.imul, 1) := by decide +kernel
theorem dX8_fold_8 : decode cX8_fold 8 = .ok (.iload_n 2, 1) := by decide +kernel
theorem dX8_fold_9 : decode cX8_fold 9 = .ok (.iadd, 1) := by decide +kernel
theorem dX8_fold_10 : decode cX8_fold 10 = .ok (.iaload, 1) := by decide +kernel
theorem dX8_fold_11 : decode cX8_fold 11 = .ok (.istore 4, 2) := by decide +kernel
theorem dX8_fold_13 : decode cX8_fold 13 = .ok (.iload 4, 2) := by decide +kernel
theorem dX8_fold_15 : decode cX8_fold 15 = .ok (.ifCond .ge 17, 3) := by decide +kernel
theorem dX8_fold_18 : decode cX8_fold 18 = .ok (.aload_n 0, 1) := by decide +kernel
theorem dX8_fold_19 : decode cX8_fold 19 = .ok (.getfield 75, 3) := by decide +kernel
theorem dX8_fold_22 : decode cX8_fold 22 = .ok (.bipush 6, 2) := by decide +kernel
theorem dX8_fold_24 : decode cX8_fold 24 = .ok (.iload_n 1, 1) := by decide +kernel
theorem dX8_fold_25 : decode cX8_fold 25 = .ok (.imul, 1) := by decide +kernel
theorem dX8_fold_26 : decode cX8_fold 26 = .ok (.iload_n 2, 1) := by decide +kernel
theorem dX8_fold_27 : decode cX8_fold 27 = .ok (.iadd, 1) := by decide +kernel
theorem dX8_fold_28 : decode cX8_fold 28 = .ok (.iload_n 3, 1) := by decide +kernel
theorem dX8_fold_29 : decode cX8_fold 29 = .ok (.iastore, 1) := by decide +kernel
theorem dX8_fold_30 : decode cX8_fold 30 = .ok (.iconst 0, 1) := by decide +kernel
theorem dX8_fold_31 : decode cX8_fold 31 = .ok (.ireturn, 1) := by decide +kernel
theorem dX8_fold_32 : decode cX8_fold 32 = .ok (.aload_n 0, 1) := by decide +kernel
theorem dX8_fold_33 : decode cX8_fold 33 = .ok (.iload 4, 2) := by decide +kernel
theorem dX8_fold_35 : decode cX8_fold 35 = .ok (.invokevirtual 232, 3) := by decide +kernel
theorem dX8_fold_38 : decode cX8_fold 38 = .ok (.istore 5, 2) := by decide +kernel
theorem dX8_fold_40 : decode cX8_fold 40 = .ok (.aload_n 0, 1) := by decide +kernel
theorem dX8_fold_41 : decode cX8_fold 41 = .ok (.iload_n 3, 1) := by decide +kernel
theorem dX8_fold_42 : decode cX8_fold 42 = .ok (.invokevirtual 232, 3) := by decide +kernel
theorem dX8_fold_45 : decode cX8_fold 45 = .ok (.istore 6, 2) := by decide +kernel
theorem dX8_fold_47 : decode cX8_fold 47 = .ok (.aload_n 0, 1) := by decide +kernel
theorem dX8_fold_48 : decode cX8_fold 48 = .ok (.getfield 69, 3) := by decide +kernel
theorem dX8_fold_51 : decode cX8_fold 51 = .ok (.iload 6, 2) := by decide +kernel
theorem dX8_fold_53 : decode cX8_fold 53 = .ok (.iload 5, 2) := by decide +kernel
theorem dX8_fold_55 : decode cX8_fold 55 = .ok (.iastore, 1) := by decide +kernel
theorem dX8_fold_56 : decode cX8_fold 56 = .ok (.iload 5, 2) := by decide +kernel
theorem dX8_fold_58 : decode cX8_fold 58 = .ok (.iload 6, 2) := by decide +kernel
theorem dX8_fold_60 : decode cX8_fold 60 = .ok (.if_icmp .eq 7, 3) := by decide +kernel
theorem dX8_fold_63 : decode cX8_fold 63 = .ok (.iconst 1, 1) := by decide +kernel
theorem dX8_fold_64 : decode cX8_fold 64 = .ok (.goto 4, 3) := by decide +kernel
theorem dX8_fold_67 : decode cX8_fold 67 = .ok (.iconst 0, 1) := by decide +kernel
theorem dX8_fold_68 : decode cX8_fold 68 = .ok (.ireturn, 1) := by decide +kernel
theorem dX8_foldAll_0 : decode cX8_foldAll 0 = .ok (.iconst 0, 1) := by decide +kernel
theorem dX8_foldAll_1 : decode cX8_foldAll 1 = .ok (.istore_n 1, 1) := by decide +kernel
theorem dX8_foldAll_2 : decode cX8_foldAll 2 = .ok (.iload_n 1, 1) := by decide +kernel
theorem dX8_foldAll_3 : decode cX8_foldAll 3 = .ok (.bipush 6, 2) := by decide +kernel
theorem dX8_foldAll_5 : decode cX8_foldAll 5 = .ok (.aload_n 0, 1) := by decide +kernel
theorem dX8_foldAll_6 : decode cX8_foldAll 6 = .ok (.getfield 226, 3) := by decide +kernel
theorem dX8_foldAll_9 : decode cX8_foldAll 9 = .ok (.imul, 1) := by decide +kernel
theorem dX8_foldAll_10 : decode cX8_foldAll 10 = .ok (.if_icmp .ge 17, 3) := by decide +kernel
theorem dX8_foldAll_13 : decode cX8_foldAll 13 = .ok (.aload_n 0, 1) := by decide +kernel
theorem dX8_foldAll_14 : decode cX8_foldAll 14 = .ok (.getfield 75, 3) := by decide +kernel
theorem dX8_foldAll_17 : decode cX8_foldAll 17 = .ok (.iload_n 1, 1) := by decide +kernel
theorem dX8_foldAll_18 : decode cX8_foldAll 18 = .ok (.bipush (-6), 2) := by decide +kernel
theorem dX8_foldAll_20 : decode cX8_foldAll 20 = .ok (.iastore, 1) := by decide +kernel
theorem dX8_foldAll_21 : decode cX8_foldAll 21 = .ok (.iinc 1 1, 3) := by decide +kernel
theorem dX8_foldAll_24 : decode cX8_foldAll 24 = .ok (.goto (-22), 3) := by decide +kernel
theorem dX8_foldAll_27 : decode cX8_foldAll 27 = .ok (.iconst 0, 1) := by decide +kernel
theorem dX8_foldAll_28 : decode cX8_foldAll 28 = .ok (.istore_n 1, 1) := by decide +kernel
theorem dX8_foldAll_29 : decode cX8_foldAll 29 = .ok (.iconst 0, 1) := by decide +kernel
theorem dX8_foldAll_30 : decode cX8_foldAll 30 = .ok (.istore_n 2, 1) := by decide +kernel
theorem dX8_foldAll_31 : decode cX8_foldAll 31 = .ok (.iload_n 2, 1) := by decide +kernel
theorem dX8_foldAll_32 : decode cX8_foldAll 32 = .ok (.aload_n 0, 1) := by decide +kernel
theorem dX8_foldAll_33 : decode cX8_foldAll 33 = .ok (.getfield 229, 3) := by decide +kernel
theorem dX8_foldAll_36 : decode cX8_foldAll 36 = .ok (.if_icmp .ge 101, 3) := by decide +kernel
theorem dX8_foldAll_39 : decode cX8_foldAll 39 = .ok (.aload_n 0, 1) := by decide +kernel
theorem dX8_foldAll_40 : decode cX8_foldAll 40 = .ok (.aload_n 0, 1) := by decide +kernel
theorem dX8_foldAll_41 : decode cX8_foldAll 41 = .ok (.aload_n 0, 1) := by decide +kernel
theorem dX8_foldAll_42 : decode cX8_foldAll 42 = .ok (.getfield 60, 3) := by decide +kernel
theorem dX8_foldAll_45 : decode cX8_foldAll 45 = .ok (.iload_n 2, 1) := by decide +kernel
theorem dX8_foldAll_46 : decode cX8_foldAll 46 = .ok (.iaload, 1) := by decide +kernel
theorem dX8_foldAll_47 : decode cX8_foldAll 47 = .ok (.invokevirtual 232, 3) := by decide +kernel
theorem dX8_foldAll_50 : decode cX8_foldAll 50 = .ok (.iconst 2, 1) := by decide +kernel
theorem dX8_foldAll_51 : decode cX8_foldAll 51 = .ok (.aload_n 0, 1) := by decide +kernel
theorem dX8_foldAll_52 : decode cX8_foldAll 52 = .ok (.getfield 63, 3) := by decide +kernel
theorem dX8_foldAll_55 : decode cX8_foldAll 55 = .ok (.iload_n 2, 1) := by decide +kernel
theorem dX8_foldAll_56 : decode cX8_foldAll 56 = .ok (.iaload, 1) := by decide +kernel
theorem dX8_foldAll_57 : decode cX8_foldAll 57 = .ok (.imul, 1) := by decide +kernel
theorem dX8_foldAll_58 : decode cX8_foldAll 58 = .ok (.aload_n 0, 1) := by decide +kernel
theorem dX8_foldAll_59 : decode cX8_foldAll 59 = .ok (.aload_n 0, 1) := by decide +kernel
theorem dX8_foldAll_60 : decode cX8_foldAll 60 = .ok (.getfield 66, 3) := by decide +kernel
theorem dX8_foldAll_63 : decode cX8_foldAll 63 = .ok (.iload_n 2, 1) := by decide +kernel
theorem dX8_foldAll_64 : decode cX8_foldAll 64 = .ok (.iaload, 1) := by decide +kernel
theorem dX8_foldAll_65 : decode cX8_foldAll 65 = .ok (.invokevirtual 232, 3) := by decide +kernel
theorem dX8_foldAll_68 : decode cX8_foldAll 68 = .ok (.invokevirtual 235, 3) := by decide +kernel
theorem dX8_foldAll_71 : decode cX8_foldAll 71 = .ok (.ifCond .ne 7, 3) := by decide +kernel
theorem dX8_foldAll_74 : decode cX8_foldAll 74 = .ok (.iload_n 1, 1) := by decide +kernel
theorem dX8_foldAll_75 : decode cX8_foldAll 75 = .ok (.ifCond .eq 7, 3) := by decide +kernel
theorem dX8_foldAll_78 : decode cX8_foldAll 78 = .ok (.iconst 1, 1) := by decide +kernel
theorem dX8_foldAll_79 : decode cX8_foldAll 79 = .ok (.goto 4, 3) := by decide +kernel
theorem dX8_foldAll_82 : decode cX8_foldAll 82 = .ok (.iconst 0, 1) := by decide +kernel
theorem dX8_foldAll_83 : decode cX8_foldAll 83 = .ok (.istore_n 1, 1) := by decide +kernel
theorem dX8_foldAll_84 : decode cX8_foldAll 84 = .ok (.aload_n 0, 1) := by decide +kernel
theorem dX8_foldAll_85 : decode cX8_foldAll 85 = .ok (.aload_n 0, 1) := by decide +kernel
theorem dX8_foldAll_86 : decode cX8_foldAll 86 = .ok (.aload_n 0, 1) := by decide +kernel
theorem dX8_foldAll_87 : decode cX8_foldAll 87 = .ok (.getfield 66, 3) := by decide +kernel
theorem dX8_foldAll_90 : decode cX8_foldAll 90 = .ok (.iload_n 2, 1) := by decide +kernel
theorem dX8_foldAll_91 : decode cX8_foldAll 91 = .ok (.iaload, 1) := by decide +kernel
theorem dX8_foldAll_92 : decode cX8_foldAll 92 = .ok (.invokevirtual 232, 3) := by decide +kernel
theorem dX8_foldAll_95 : decode cX8_foldAll 95 = .ok (.iconst 2, 1) := by decide +kernel
theorem dX8_foldAll_96 : decode cX8_foldAll 96 = .ok (.aload_n 0, 1) := by decide +kernel
theorem dX8_foldAll_97 : decode cX8_foldAll 97 = .ok (.getfield 63, 3) := by decide +kernel
theorem dX8_foldAll_100 : decode cX8_foldAll 100 = .ok (.iload_n 2, 1) := by decide +kernel
theorem dX8_foldAll_101 : decode cX8_foldAll 101 = .ok (.iaload, 1) := by decide +kernel
theorem dX8_foldAll_102 : decode cX8_foldAll 102 = .ok (.imul, 1) := by decide +kernel
theorem dX8_foldAll_103 : decode cX8_foldAll 103 = .ok (.iconst 1, 1) := by decide +kernel
theorem dX8_foldAll_104 : decode cX8_foldAll 104 = .ok (.iadd, 1) := by decide +kernel
theorem dX8_foldAll_105 : decode cX8_foldAll 105 = .ok (.aload_n 0, 1) := by decide +kernel
theorem dX8_foldAll_106 : decode cX8_foldAll 106 = .ok (.aload_n 0, 1) := by decide +kernel
theorem dX8_foldAll_107 : decode cX8_foldAll 107 = .ok (.getfield 60, 3) := by decide +kernel
theorem dX8_foldAll_110 : decode cX8_foldAll 110 = .ok (.iload_n 2, 1) := by decide +kernel
theorem dX8_foldAll_111 : decode cX8_foldAll 111 = .ok (.iaload, 1) := by decide +kernel
theorem dX8_foldAll_112 : decode cX8_foldAll 112 = .ok (.invokevirtual 232, 3) := by decide +kernel
theorem dX8_foldAll_115 : decode cX8_foldAll 115 = .ok (.invokevirtual 235, 3) := by decide +kernel
theorem dX8_foldAll_118 : decode cX8_foldAll 118 = .ok (.ifCond .ne 7, 3) := by decide +kernel
theorem dX8_foldAll_121 : decode cX8_foldAll 121 = .ok (.iload_n 1, 1) := by decide +kernel
theorem dX8_foldAll_122 : decode cX8_foldAll 122 = .ok (.ifCond .eq 7, 3) := by decide +kernel
theorem dX8_foldAll_125 : decode cX8_foldAll 125 = .ok (.iconst 1, 1) := by decide +kernel
theorem dX8_foldAll_126 : decode cX8_foldAll 126 = .ok (.goto 4, 3) := by decide +kernel
theorem dX8_foldAll_129 : decode cX8_foldAll 129 = .ok (.iconst 0, 1) := by decide +kernel
theorem dX8_foldAll_130 : decode cX8_foldAll 130 = .ok (.istore_n 1, 1) := by decide +kernel
theorem dX8_foldAll_131 : decode cX8_foldAll 131 = .ok (.iinc 2 1, 3) := by decide +kernel
theorem dX8_foldAll_134 : decode cX8_foldAll 134 = .ok (.goto (-103), 3) := by decide +kernel
theorem dX8_foldAll_137 : decode cX8_foldAll 137 = .ok (.iload_n 1, 1) := by decide +kernel
theorem dX8_foldAll_138 : decode cX8_foldAll 138 = .ok (.ireturn, 1) := by decide +kernel
theorem dX8_tidy_0 : decode cX8_tidy 0 = .ok (.iconst 0, 1) := by decide +kernel
theorem dX8_tidy_1 : decode cX8_tidy 1 = .ok (.istore_n 1, 1) := by decide +kernel
theorem dX8_tidy_2 : decode cX8_tidy 2 = .ok (.iconst 0, 1) := by decide +kernel
theorem dX8_tidy_3 : decode cX8_tidy 3 = .ok (.istore_n 2, 1) := by decide +kernel
theorem dX8_tidy_4 : decode cX8_tidy 4 = .ok (.iload_n 2, 1) := by decide +kernel
theorem dX8_tidy_5 : decode cX8_tidy 5 = .ok (.aload_n 0, 1) := by decide +kernel
theorem dX8_tidy_6 : decode cX8_tidy 6 = .ok (.getfield 226, 3) := by decide +kernel
theorem dX8_tidy_9 : decode cX8_tidy 9 = .ok (.if_icmp .ge 37, 3) := by decide +kernel
theorem dX8_tidy_12 : decode cX8_tidy 12 = .ok (.aload_n 0, 1) := by decide +kernel
theorem dX8_tidy_13 : decode cX8_tidy 13 = .ok (.getfield 72, 3) := by decide +kernel
theorem dX8_tidy_16 : decode cX8_tidy 16 = .ok (.iload_n 2, 1) := by decide +kernel
theorem dX8_tidy_17 : decode cX8_tidy 17 = .ok (.bipush (-6), 2) := by decide +kernel
theorem dX8_tidy_19 : decode cX8_tidy 19 = .ok (.iastore, 1) := by decide +kernel
theorem dX8_tidy_20 : decode cX8_tidy 20 = .ok (.aload_n 0, 1) := by decide +kernel
theorem dX8_tidy_21 : decode cX8_tidy 21 = .ok (.getfield 69, 3) := by decide +kernel
theorem dX8_tidy_24 : decode cX8_tidy 24 = .ok (.iload_n 2, 1) := by decide +kernel
theorem dX8_tidy_25 : decode cX8_tidy 25 = .ok (.iaload, 1) := by decide +kernel
theorem dX8_tidy_26 : decode cX8_tidy 26 = .ok (.iload_n 2, 1) := by decide +kernel
theorem dX8_tidy_27 : decode cX8_tidy 27 = .ok (.if_icmp .ne 13, 3) := by decide +kernel
theorem dX8_tidy_30 : decode cX8_tidy 30 = .ok (.aload_n 0, 1) := by decide +kernel
theorem dX8_tidy_31 : decode cX8_tidy 31 = .ok (.getfield 72, 3) := by decide +kernel
theorem dX8_tidy_34 : decode cX8_tidy 34 = .ok (.iload_n 2, 1) := by decide +kernel
theorem dX8_tidy_35 : decode cX8_tidy 35 = .ok (.iload_n 1, 1) := by decide +kernel
theorem dX8_tidy_36 : decode cX8_tidy 36 = .ok (.iastore, 1) := by decide +kernel
theorem dX8_tidy_37 : decode cX8_tidy 37 = .ok (.iinc 1 1, 3) := by decide +kernel
theorem dX8_tidy_40 : decode cX8_tidy 40 = .ok (.iinc 2 1, 3) := by decide +kernel
theorem dX8_tidy_43 : decode cX8_tidy 43 = .ok (.goto (-39), 3) := by decide +kernel
theorem dX8_tidy_46 : decode cX8_tidy 46 = .ok (.aload_n 0, 1) := by decide +kernel
theorem dX8_tidy_47 : decode cX8_tidy 47 = .ok (.aload_n 0, 1) := by decide +kernel
theorem dX8_tidy_48 : decode cX8_tidy 48 = .ok (.getfield 72, 3) := by decide +kernel
theorem dX8_tidy_51 : decode cX8_tidy 51 = .ok (.aload_n 0, 1) := by decide +kernel
theorem dX8_tidy_52 : decode cX8_tidy 52 = .ok (.aload_n 0, 1) := by decide +kernel
theorem dX8_tidy_53 : decode cX8_tidy 53 = .ok (.getfield 238, 3) := by decide +kernel
theorem dX8_tidy_56 : decode cX8_tidy 56 = .ok (.invokevirtual 232, 3) := by decide +kernel
theorem dX8_tidy_59 : decode cX8_tidy 59 = .ok (.iaload, 1) := by decide +kernel
theorem dX8_tidy_60 : decode cX8_tidy 60 = .ok (.putfield 238, 3) := by decide +kernel
theorem dX8_tidy_63 : decode cX8_tidy 63 = .ok (.aload_n 0, 1) := by decide +kernel
theorem dX8_tidy_64 : decode cX8_tidy 64 = .ok (.aload_n 0, 1) := by decide +kernel
theorem dX8_tidy_65 : decode cX8_tidy 65 = .ok (.getfield 72, 3) := by decide +kernel
theorem dX8_tidy_68 : decode cX8_tidy 68 = .ok (.aload_n 0, 1) := by decide +kernel
theorem dX8_tidy_69 : decode cX8_tidy 69 = .ok (.aload_n 0, 1) := by decide +kernel
theorem dX8_tidy_70 : decode cX8_tidy 70 = .ok (.getfield 241, 3) := by decide +kernel
theorem dX8_tidy_73 : decode cX8_tidy 73 = .ok (.invokevirtual 232, 3) := by decide +kernel
theorem dX8_tidy_76 : decode cX8_tidy 76 = .ok (.iaload, 1) := by decide +kernel
theorem dX8_tidy_77 : decode cX8_tidy 77 = .ok (.putfield 241, 3) := by decide +kernel
theorem dX8_tidy_80 : decode cX8_tidy 80 = .ok (.aload_n 0, 1) := by decide +kernel
theorem dX8_tidy_81 : decode cX8_tidy 81 = .ok (.iconst 0, 1) := by decide +kernel
theorem dX8_tidy_82 : decode cX8_tidy 82 = .ok (.putfield 229, 3) := by decide +kernel
theorem dX8_tidy_85 : decode cX8_tidy 85 = .ok (.iconst 0, 1) := by decide +kernel
theorem dX8_tidy_86 : decode cX8_tidy 86 = .ok (.istore_n 2, 1) := by decide +kernel
theorem dX8_tidy_87 : decode cX8_tidy 87 = .ok (.iload_n 2, 1) := by decide +kernel
theorem dX8_tidy_88 : decode cX8_tidy 88 = .ok (.aload_n 0, 1) := by decide +kernel
theorem dX8_tidy_89 : decode cX8_tidy 89 = .ok (.getfield 226, 3) := by decide +kernel
theorem dX8_tidy_92 : decode cX8_tidy 92 = .ok (.if_icmp .ge 78, 3) := by decide +kernel
theorem dX8_tidy_95 : decode cX8_tidy 95 = .ok (.iconst 0, 1) := by decide +kernel
theorem dX8_tidy_96 : decode cX8_tidy 96 = .ok (.istore_n 3, 1) := by decide +kernel
theorem dX8_tidy_97 : decode cX8_tidy 97 = .ok (.iload_n 3, 1) := by decide +kernel
theorem dX8_tidy_98 : decode cX8_tidy 98 = .ok (.bipush 6, 2) := by decide +kernel
theorem dX8_tidy_100 : decode cX8_tidy 100 = .ok (.if_icmp .ge 64, 3) := by decide +kernel
theorem dX8_tidy_103 : decode cX8_tidy 103 = .ok (.aload_n 0, 1) := by decide +kernel
theorem dX8_tidy_104 : decode cX8_tidy 104 = .ok (.getfield 69, 3) := by decide +kernel
theorem dX8_tidy_107 : decode cX8_tidy 107 = .ok (.iload_n 2, 1) := by decide +kernel
theorem dX8_tidy_108 : decode cX8_tidy 108 = .ok (.iaload, 1) := by decide +kernel
theorem dX8_tidy_109 : decode cX8_tidy 109 = .ok (.iload_n 2, 1) := by decide +kernel
theorem dX8_tidy_110 : decode cX8_tidy 110 = .ok (.if_icmp .ne 54, 3) := by decide +kernel
theorem dX8_tidy_113 : decode cX8_tidy 113 = .ok (.aload_n 0, 1) := by decide +kernel
theorem dX8_tidy_114 : decode cX8_tidy 114 = .ok (.getfield 75, 3) := by decide +kernel
theorem dX8_tidy_117 : decode cX8_tidy 117 = .ok (.bipush 6, 2) := by decide +kernel
theorem dX8_tidy_119 : decode cX8_tidy 119 = .ok (.iload_n 2, 1) := by decide +kernel
theorem dX8_tidy_120 : decode cX8_tidy 120 = .ok (.imul, 1) := by decide +kernel
theorem dX8_tidy_121 : decode cX8_tidy 121 = .ok (.iload_n 3, 1) := by decide +kernel
theorem dX8_tidy_122 : decode cX8_tidy 122 = .ok (.iadd, 1) := by decide +kernel
theorem dX8_tidy_123 : decode cX8_tidy 123 = .ok (.iaload, 1) := by decide +kernel
theorem dX8_tidy_124 : decode cX8_tidy 124 = .ok (.ifCond .lt 34, 3) := by decide +kernel
theorem dX8_tidy_127 : decode cX8_tidy 127 = .ok (.aload_n 0, 1) := by decide +kernel
theorem dX8_tidy_128 : decode cX8_tidy 128 = .ok (.aload_n 0, 1) := by decide +kernel
theorem dX8_tidy_129 : decode cX8_tidy 129 = .ok (.getfield 72, 3) := by decide +kernel
theorem dX8_tidy_132 : decode cX8_tidy 132 = .ok (.iload_n 2, 1) := by decide +kernel
theorem dX8_tidy_133 : decode cX8_tidy 133 = .ok (.iaload, 1) := by decide +kernel
theorem dX8_tidy_134 : decode cX8_tidy 134 = .ok (.iload_n 3, 1) := by decide +kernel
theorem dX8_tidy_135 : decode cX8_tidy 135 = .ok (.aload_n 0, 1) := by decide +kernel
theorem dX8_tidy_136 : decode cX8_tidy 136 = .ok (.getfield 72, 3) := by decide +kernel
theorem dX8_tidy_139 : decode cX8_tidy 139 = .ok (.aload_n 0, 1) := by decide +kernel
theorem dX8_tidy_140 : decode cX8_tidy 140 = .ok (.aload_n 0, 1) := by decide +kernel
theorem dX8_tidy_141 : decode cX8_tidy 141 = .ok (.getfield 75, 3) := by decide +kernel
theorem dX8_tidy_144 : decode cX8_tidy 144 = .ok (.bipush 6, 2) := by decide +kernel
theorem dX8_tidy_146 : decode cX8_tidy 146 = .ok (.iload_n 2, 1) := by decide +kernel
theorem dX8_tidy_147 : decode cX8_tidy 147 = .ok (.imul, 1) := by decide +kernel
theorem dX8_tidy_148 : decode cX8_tidy 148 = .ok (.iload_n 3, 1) := by decide +kernel
theorem dX8_tidy_149 : decode cX8_tidy 149 = .ok (.iadd, 1) := by decide +kernel
theorem dX8_tidy_150 : decode cX8_tidy 150 = .ok (.iaload, 1) := by decide +kernel
theorem dX8_tidy_151 : decode cX8_tidy 151 = .ok (.invokevirtual 232, 3) := by decide +kernel
theorem dX8_tidy_154 : decode cX8_tidy 154 = .ok (.iaload, 1) := by decide +kernel
theorem dX8_tidy_155 : decode cX8_tidy 155 = .ok (.invokevirtual 244, 3) := by decide +kernel
theorem dX8_tidy_158 : decode cX8_tidy 158 = .ok (.iinc 3 2, 3) := by decide +kernel
theorem dX8_tidy_161 : decode cX8_tidy 161 = .ok (.goto (-64), 3) := by decide +kernel
theorem dX8_tidy_164 : decode cX8_tidy 164 = .ok (.iinc 2 1, 3) := by decide +kernel
theorem dX8_tidy_167 : decode cX8_tidy 167 = .ok (.goto (-80), 3) := by decide +kernel
theorem dX8_tidy_170 : decode cX8_tidy 170 = .ok (.aload_n 0, 1) := by decide +kernel
theorem dX8_tidy_171 : decode cX8_tidy 171 = .ok (.iload_n 1, 1) := by decide +kernel
theorem dX8_tidy_172 : decode cX8_tidy 172 = .ok (.putfield 226, 3) := by decide +kernel
theorem dX8_tidy_175 : decode cX8_tidy 175 = .ok (.iconst 0, 1) := by decide +kernel
theorem dX8_tidy_176 : decode cX8_tidy 176 = .ok (.istore_n 2, 1) := by decide +kernel
theorem dX8_tidy_177 : decode cX8_tidy 177 = .ok (.iload_n 2, 1) := by decide +kernel
theorem dX8_tidy_178 : decode cX8_tidy 178 = .ok (.iload_n 1, 1) := by decide +kernel
theorem dX8_tidy_179 : decode cX8_tidy 179 = .ok (.if_icmp .ge 16, 3) := by decide +kernel
theorem dX8_tidy_182 : decode cX8_tidy 182 = .ok (.aload_n 0, 1) := by decide +kernel
theorem dX8_tidy_183 : decode cX8_tidy 183 = .ok (.getfield 69, 3) := by decide +kernel
theorem dX8_tidy_186 : decode cX8_tidy 186 = .ok (.iload_n 2, 1) := by decide +kernel
theorem dX8_tidy_187 : decode cX8_tidy 187 = .ok (.iload_n 2, 1) := by decide +kernel
theorem dX8_tidy_188 : decode cX8_tidy 188 = .ok (.iastore, 1) := by decide +kernel
theorem dX8_tidy_189 : decode cX8_tidy 189 = .ok (.iinc 2 1, 3) := by decide +kernel
theorem dX8_tidy_192 : decode cX8_tidy 192 = .ok (.goto (-15), 3) := by decide +kernel
theorem dX8_tidy_195 : decode cX8_tidy 195 = .ok (.return_, 1) := by decide +kernel
theorem dX8_foldNet_0 : decode cX8_foldNet 0 = .ok (.aload_n 0, 1) := by decide +kernel
theorem dX8_foldNet_1 : decode cX8_foldNet 1 = .ok (.invokevirtual 247, 3) := by decide +kernel
theorem dX8_foldNet_4 : decode cX8_foldNet 4 = .ok (.istore_n 1, 1) := by decide +kernel
theorem dX8_foldNet_5 : decode cX8_foldNet 5 = .ok (.iload_n 1, 1) := by decide +kernel
theorem dX8_foldNet_6 : decode cX8_foldNet 6 = .ok (.ifCond .eq 11, 3) := by decide +kernel
theorem dX8_foldNet_9 : decode cX8_foldNet 9 = .ok (.aload_n 0, 1) := by decide +kernel
theorem dX8_foldNet_10 : decode cX8_foldNet 10 = .ok (.invokevirtual 247, 3) := by decide +kernel
theorem dX8_foldNet_13 : decode cX8_foldNet 13 = .ok (.istore_n 1, 1) := by decide +kernel
theorem dX8_foldNet_14 : decode cX8_foldNet 14 = .ok (.goto (-9), 3) := by decide +kernel
theorem dX8_foldNet_17 : decode cX8_foldNet 17 = .ok (.aload_n 0, 1) := by decide +kernel
theorem dX8_foldNet_18 : decode cX8_foldNet 18 = .ok (.invokevirtual 250, 3) := by decide +kernel
theorem dX8_foldNet_21 : decode cX8_foldNet 21 = .ok (.aload_n 0, 1) := by decide +kernel
theorem dX8_foldNet_22 : decode cX8_foldNet 22 = .ok (.invokevirtual 247, 3) := by decide +kernel
theorem dX8_foldNet_25 : decode cX8_foldNet 25 = .ok (.pop, 1) := by decide +kernel
theorem dX8_foldNet_26 : decode cX8_foldNet 26 = .ok (.return_, 1) := by decide +kernel
theorem dX8_ruleLetter_0 : decode cX8_ruleLetter 0 = .ok (.aload_n 0, 1) := by decide +kernel
theorem dX8_ruleLetter_1 : decode cX8_ruleLetter 1 = .ok (.getfield 7, 3) := by decide +kernel
theorem dX8_ruleLetter_4 : decode cX8_ruleLetter 4 = .ok (.bipush 64, 2) := by decide +kernel
theorem dX8_ruleLetter_6 : decode cX8_ruleLetter 6 = .ok (.bipush 12, 2) := by decide +kernel
theorem dX8_ruleLetter_8 : decode cX8_ruleLetter 8 = .ok (.iload_n 1, 1) := by decide +kernel
theorem dX8_ruleLetter_9 : decode cX8_ruleLetter 9 = .ok (.imul, 1) := by decide +kernel
theorem dX8_ruleLetter_10 : decode cX8_ruleLetter 10 = .ok (.iadd, 1) := by decide +kernel
theorem dX8_ruleLetter_11 : decode cX8_ruleLetter 11 = .ok (.iload_n 2, 1) := by decide +kernel
theorem dX8_ruleLetter_12 : decode cX8_ruleLetter 12 = .ok (.iadd, 1) := by decide +kernel
theorem dX8_ruleLetter_13 : decode cX8_ruleLetter 13 = .ok (.iaload, 1) := by decide +kernel
theorem dX8_ruleLetter_14 : decode cX8_ruleLetter 14 = .ok (.ireturn, 1) := by decide +kernel
theorem dX8_readRule_0 : decode cX8_readRule 0 = .ok (.iload_n 2, 1) := by decide +kernel
theorem dX8_readRule_1 : decode cX8_readRule 1 = .ok (.istore_n 3, 1) := by decide +kernel
theorem dX8_readRule_2 : decode cX8_readRule 2 = .ok (.iconst 0, 1) := by decide +kernel
theorem dX8_readRule_3 : decode cX8_readRule 3 = .ok (.istore 4, 2) := by decide +kernel
theorem dX8_readRule_5 : decode cX8_readRule 5 = .ok (.iload 4, 2) := by decide +kernel
theorem dX8_readRule_7 : decode cX8_readRule 7 = .ok (.aload_n 0, 1) := by decide +kernel
theorem dX8_readRule_8 : decode cX8_readRule 8 = .ok (.getfield 7, 3) := by decide +kernel
theorem dX8_readRule_11 : decode cX8_readRule 11 = .ok (.bipush 60, 2) := by decide +kernel
theorem dX8_readRule_13 : decode cX8_readRule 13 = .ok (.iload_n 1, 1) := by decide +kernel
theorem dX8_readRule_14 : decode cX8_readRule 14 = .ok (.iadd, 1) := by decide +kernel
theorem dX8_readRule_15 : decode cX8_readRule 15 = .ok (.iaload, 1) := by decide +kernel
theorem dX8_readRule_16 : decode cX8_readRule 16 = .ok (.if_icmp .ge 31, 3) := by decide +kernel
theorem dX8_readRule_19 : decode cX8_readRule 19 = .ok (.iload_n 3, 1) := by decide +kernel
theorem dX8_readRule_20 : decode cX8_readRule 20 = .ok (.ifCond .lt 27, 3) := by decide +kernel
theorem dX8_readRule_23 : decode cX8_readRule 23 = .ok (.aload_n 0, 1) := by decide +kernel
theorem dX8_readRule_24 : decode cX8_readRule 24 = .ok (.getfield 75, 3) := by decide +kernel
theorem dX8_readRule_27 : decode cX8_readRule 27 = .ok (.bipush 6, 2) := by decide +kernel
theorem dX8_readRule_29 : decode cX8_readRule 29 = .ok (.iload_n 3, 1) := by decide +kernel
theorem dX8_readRule_30 : decode cX8_readRule 30 = .ok (.imul, 1) := by decide +kernel
theorem dX8_readRule_31 : decode cX8_readRule 31 = .ok (.aload_n 0, 1) := by decide +kernel
theorem dX8_readRule_32 : decode cX8_readRule 32 = .ok (.iload_n 1, 1) := by decide +kernel
theorem dX8_readRule_33 : decode cX8_readRule 33 = .ok (.iload 4, 2) := by decide +kernel
theorem dX8_readRule_35 : decode cX8_readRule 35 = .ok (.invokevirtual 253, 3) := by decide +kernel
theorem dX8_readRule_38 : decode cX8_readRule 38 = .ok (.iadd, 1) := by decide +kernel
theorem dX8_readRule_39 : decode cX8_readRule 39 = .ok (.iaload, 1) := by decide +kernel
theorem dX8_readRule_40 : decode cX8_readRule 40 = .ok (.istore_n 3, 1) := by decide +kernel
theorem dX8_readRule_41 : decode cX8_readRule 41 = .ok (.iinc 4 1, 3) := by decide +kernel
theorem dX8_readRule_44 : decode cX8_readRule 44 = .ok (.goto (-39), 3) := by decide +kernel
theorem dX8_readRule_47 : decode cX8_readRule 47 = .ok (.iload_n 3, 1) := by decide +kernel
theorem dX8_readRule_48 : decode cX8_readRule 48 = .ok (.ireturn, 1) := by decide +kernel
theorem dX8_readWord_0 : decode cX8_readWord 0 = .ok (.iload_n 2, 1) := by decide +kernel
theorem dX8_readWord_1 : decode cX8_readWord 1 = .ok (.istore_n 3, 1) := by decide +kernel
theorem dX8_readWord_2 : decode cX8_readWord 2 = .ok (.iconst 0, 1) := by decide +kernel
theorem dX8_readWord_3 : decode cX8_readWord 3 = .ok (.istore 4, 2) := by decide +kernel
theorem dX8_readWord_5 : decode cX8_readWord 5 = .ok (.iload 4, 2) := by decide +kernel
theorem dX8_readWord_7 : decode cX8_readWord 7 = .ok (.aload_n 0, 1) := by decide +kernel
theorem dX8_readWord_8 : decode cX8_readWord 8 = .ok (.getfield 7, 3) := by decide +kernel
theorem dX8_readWord_11 : decode cX8_readWord 11 = .ok (.bipush 6, 2) := by decide +kernel
theorem dX8_readWord_13 : decode cX8_readWord 13 = .ok (.iload_n 1, 1) := by decide +kernel
theorem dX8_readWord_14 : decode cX8_readWord 14 = .ok (.iadd, 1) := by decide +kernel
theorem dX8_readWord_15 : decode cX8_readWord 15 = .ok (.iaload, 1) := by decide +kernel
theorem dX8_readWord_16 : decode cX8_readWord 16 = .ok (.if_icmp .ge 39, 3) := by decide +kernel
theorem dX8_readWord_19 : decode cX8_readWord 19 = .ok (.iload_n 3, 1) := by decide +kernel
theorem dX8_readWord_20 : decode cX8_readWord 20 = .ok (.ifCond .lt 35, 3) := by decide +kernel
theorem dX8_readWord_23 : decode cX8_readWord 23 = .ok (.aload_n 0, 1) := by decide +kernel
theorem dX8_readWord_24 : decode cX8_readWord 24 = .ok (.getfield 75, 3) := by decide +kernel
theorem dX8_readWord_27 : decode cX8_readWord 27 = .ok (.bipush 6, 2) := by decide +kernel
theorem dX8_readWord_29 : decode cX8_readWord 29 = .ok (.iload_n 3, 1) := by decide +kernel
theorem dX8_readWord_30 : decode cX8_readWord 30 = .ok (.imul, 1) := by decide +kernel
theorem dX8_readWord_31 : decode cX8_readWord 31 = .ok (.aload_n 0, 1) := by decide +kernel
theorem dX8_readWord_32 : decode cX8_readWord 32 = .ok (.getfield 7, 3) := by decide +kernel
theorem dX8_readWord_35 : decode cX8_readWord 35 = .ok (.bipush 10, 2) := by decide +kernel
theorem dX8_readWord_37 : decode cX8_readWord 37 = .ok (.bipush 12, 2) := by decide +kernel
theorem dX8_readWord_39 : decode cX8_readWord 39 = .ok (.iload_n 1, 1) := by decide +kernel
theorem dX8_readWord_40 : decode cX8_readWord 40 = .ok (.imul, 1) := by decide +kernel
theorem dX8_readWord_41 : decode cX8_readWord 41 = .ok (.iadd, 1) := by decide +kernel
theorem dX8_readWord_42 : decode cX8_readWord 42 = .ok (.iload 4, 2) := by decide +kernel
theorem dX8_readWord_44 : decode cX8_readWord 44 = .ok (.iadd, 1) := by decide +kernel
theorem dX8_readWord_45 : decode cX8_readWord 45 = .ok (.iaload, 1) := by decide +kernel
theorem dX8_readWord_46 : decode cX8_readWord 46 = .ok (.iadd, 1) := by decide +kernel
theorem dX8_readWord_47 : decode cX8_readWord 47 = .ok (.iaload, 1) := by decide +kernel
theorem dX8_readWord_48 : decode cX8_readWord 48 = .ok (.istore_n 3, 1) := by decide +kernel
theorem dX8_readWord_49 : decode cX8_readWord 49 = .ok (.iinc 4 1, 3) := by decide +kernel
theorem dX8_readWord_52 : decode cX8_readWord 52 = .ok (.goto (-47), 3) := by decide +kernel
theorem dX8_readWord_55 : decode cX8_readWord 55 = .ok (.iload_n 3, 1) := by decide +kernel
theorem dX8_readWord_56 : decode cX8_readWord 56 = .ok (.ireturn, 1) := by decide +kernel
theorem dX8_laySews_0 : decode cX8_laySews 0 = .ok (.aload_n 0, 1) := by decide +kernel
theorem dX8_laySews_1 : decode cX8_laySews 1 = .ok (.iconst 0, 1) := by decide +kernel
theorem dX8_laySews_2 : decode cX8_laySews 2 = .ok (.putfield 256, 3) := by decide +kernel
theorem dX8_laySews_5 : decode cX8_laySews 5 = .ok (.iconst 0, 1) := by decide +kernel
theorem dX8_laySews_6 : decode cX8_laySews 6 = .ok (.istore_n 1, 1) := by decide +kernel
theorem dX8_laySews_7 : decode cX8_laySews 7 = .ok (.iload_n 1, 1) := by decide +kernel
theorem dX8_laySews_8 : decode cX8_laySews 8 = .ok (.aload_n 0, 1) := by decide +kernel
theorem dX8_laySews_9 : decode cX8_laySews 9 = .ok (.getfield 226, 3) := by decide +kernel
theorem dX8_laySews_12 : decode cX8_laySews 12 = .ok (.if_icmp .ge 106, 3) := by decide +kernel
theorem dX8_laySews_15 : decode cX8_laySews 15 = .ok (.iconst 0, 1) := by decide +kernel
theorem dX8_laySews_16 : decode cX8_laySews 16 = .ok (.istore_n 2, 1) := by decide +kernel
theorem dX8_laySews_17 : decode cX8_laySews 17 = .ok (.iload_n 2, 1) := by decide +kernel
theorem dX8_laySews_18 : decode cX8_laySews 18 = .ok (.iconst 4, 1) := by decide +kernel
theorem dX8_laySews_19 : decode cX8_laySews 19 = .ok (.if_icmp .ge 93, 3) := by decide +kernel
theorem dX8_laySews_22 : decode cX8_laySews 22 = .ok (.aload_n 0, 1) := by decide +kernel
theorem dX8_laySews_23 : decode cX8_laySews 23 = .ok (.getfield 7, 3) := by decide +kernel
theorem dX8_laySews_26 : decode cX8_laySews 26 = .ok (.bipush 58, 2) := by decide +kernel
theorem dX8_laySews_28 : decode cX8_laySews 28 = .ok (.iload_n 2, 1) := by decide +kernel
theorem dX8_laySews_29 : decode cX8_laySews 29 = .ok (.iconst 2, 1) := by decide +kernel
theorem dX8_laySews_30 : decode cX8_laySews 30 = .ok (.idiv, 1) := by decide +kernel
theorem dX8_laySews_31 : decode cX8_laySews 31 = .ok (.iadd, 1) := by decide +kernel
theorem dX8_laySews_32 : decode cX8_laySews 32 = .ok (.iaload, 1) := by decide +kernel
theorem dX8_laySews_33 : decode cX8_laySews 33 = .ok (.iconst 1, 1) := by decide +kernel
theorem dX8_laySews_34 : decode cX8_laySews 34 = .ok (.if_icmp .ne 15, 3) := by decide +kernel
theorem dX8_laySews_37 : decode cX8_laySews 37 = .ok (.aload_n 0, 1) := by decide +kernel
theorem dX8_laySews_38 : decode cX8_laySews 38 = .ok (.iload_n 2, 1) := by decide +kernel
theorem dX8_laySews_39 : decode cX8_laySews 39 = .ok (.invokestatic 207, 3) := by decide +kernel
theorem dX8_laySews_42 : decode cX8_laySews 42 = .ok (.iload_n 1, 1) := by decide +kernel
theorem dX8_laySews_43 : decode cX8_laySews 43 = .ok (.invokevirtual 259, 3) := by decide +kernel
theorem dX8_laySews_46 : decode cX8_laySews 46 = .ok (.goto 5, 3) := by decide +kernel
theorem dX8_laySews_49 : decode cX8_laySews 49 = .ok (.bipush (-6), 2) := by decide +kernel
theorem dX8_laySews_51 : decode cX8_laySews 51 = .ok (.istore_n 3, 1) := by decide +kernel
theorem dX8_laySews_52 : decode cX8_laySews 52 = .ok (.iload_n 3, 1) := by decide +kernel
theorem dX8_laySews_53 : decode cX8_laySews 53 = .ok (.ifCond .lt 53, 3) := by decide +kernel
theorem dX8_laySews_56 : decode cX8_laySews 56 = .ok (.aload_n 0, 1) := by decide +kernel
theorem dX8_laySews_57 : decode cX8_laySews 57 = .ok (.iload_n 2, 1) := by decide +kernel
theorem dX8_laySews_58 : decode cX8_laySews 58 = .ok (.iload_n 1, 1) := by decide +kernel
theorem dX8_laySews_59 : decode cX8_laySews 59 = .ok (.invokevirtual 259, 3) := by decide +kernel
theorem dX8_laySews_62 : decode cX8_laySews 62 = .ok (.iload_n 3, 1) := by decide +kernel
theorem dX8_laySews_63 : decode cX8_laySews 63 = .ok (.if_icmp .eq 43, 3) := by decide +kernel
theorem dX8_laySews_66 : decode cX8_laySews 66 = .ok (.aload_n 0, 1) := by decide +kernel
theorem dX8_laySews_67 : decode cX8_laySews 67 = .ok (.getfield 78, 3) := by decide +kernel
theorem dX8_laySews_70 : decode cX8_laySews 70 = .ok (.aload_n 0, 1) := by decide +kernel
theorem dX8_laySews_71 : decode cX8_laySews 71 = .ok (.getfield 256, 3) := by decide +kernel
theorem dX8_laySews_74 : decode cX8_laySews 74 = .ok (.iload_n 2, 1) := by decide +kernel
theorem dX8_laySews_75 : decode cX8_laySews 75 = .ok (.iastore, 1) := by decide +kernel
theorem dX8_laySews_76 : decode cX8_laySews 76 = .ok (.aload_n 0, 1) := by decide +kernel
theorem dX8_laySews_77 : decode cX8_laySews 77 = .ok (.getfield 81, 3) := by decide +kernel
theorem dX8_laySews_80 : decode cX8_laySews 80 = .ok (.aload_n 0, 1) := by decide +kernel
theorem dX8_laySews_81 : decode cX8_laySews 81 = .ok (.getfield 256, 3) := by decide +kernel
theorem dX8_laySews_84 : decode cX8_laySews 84 = .ok (.iload_n 1, 1) := by decide +kernel
theorem dX8_laySews_85 : decode cX8_laySews 85 = .ok (.iastore, 1) := by decide +kernel
theorem dX8_laySews_86 : decode cX8_laySews 86 = .ok (.aload_n 0, 1) := by decide +kernel
theorem dX8_laySews_87 : decode cX8_laySews 87 = .ok (.getfield 84, 3) := by decide +kernel
theorem dX8_laySews_90 : decode cX8_laySews 90 = .ok (.aload_n 0, 1) := by decide +kernel
theorem dX8_laySews_91 : decode cX8_laySews 91 = .ok (.getfield 256, 3) := by decide +kernel
theorem dX8_laySews_94 : decode cX8_laySews 94 = .ok (.iload_n 3, 1) := by decide +kernel
theorem dX8_laySews_95 : decode cX8_laySews 95 = .ok (.iastore, 1) := by decide +kernel
theorem dX8_laySews_96 : decode cX8_laySews 96 = .ok (.aload_n 0, 1) := by decide +kernel
theorem dX8_laySews_97 : decode cX8_laySews 97 = .ok (.dup, 1) := by decide +kernel
theorem dX8_laySews_98 : decode cX8_laySews 98 = .ok (.getfield 256, 3) := by decide +kernel
theorem dX8_laySews_101 : decode cX8_laySews 101 = .ok (.iconst 1, 1) := by decide +kernel
theorem dX8_laySews_102 : decode cX8_laySews 102 = .ok (.iadd, 1) := by decide +kernel
theorem dX8_laySews_103 : decode cX8_laySews 103 = .ok (.putfield 256, 3) := by decide +kernel
theorem dX8_laySews_106 : decode cX8_laySews 106 = .ok (.iinc 2 1, 3) := by decide +kernel
theorem dX8_laySews_109 : decode cX8_laySews 109 = .ok (.goto (-92), 3) := by decide +kernel
theorem dX8_laySews_112 : decode cX8_laySews 112 = .ok (.iinc 1 1, 3) := by decide +kernel
theorem dX8_laySews_115 : decode cX8_laySews 115 = .ok (.goto (-108), 3) := by decide +kernel
theorem dX8_laySews_118 : decode cX8_laySews 118 = .ok (.return_, 1) := by decide +kernel
theorem dX8_sew_0 : decode cX8_sew 0 = .ok (.aload_n 0, 1) := by decide +kernel
theorem dX8_sew_1 : decode cX8_sew 1 = .ok (.getfield 7, 3) := by decide +kernel
theorem dX8_sew_4 : decode cX8_sew 4 = .ok (.bipush 60, 2) := by decide +kernel
theorem dX8_sew_6 : decode cX8_sew 6 = .ok (.iload_n 1, 1) := by decide +kernel
theorem dX8_sew_7 : decode cX8_sew 7 = .ok (.iadd, 1) := by decide +kernel
theorem dX8_sew_8 : decode cX8_sew 8 = .ok (.iaload, 1) := by decide +kernel
theorem dX8_sew_9 : decode cX8_sew 9 = .ok (.istore 4, 2) := by decide +kernel
theorem dX8_sew_11 : decode cX8_sew 11 = .ok (.iload 4, 2) := by decide +kernel
theorem dX8_sew_13 : decode cX8_sew 13 = .ok (.ifCond .ne 19, 3) := by decide +kernel
theorem dX8_sew_16 : decode cX8_sew 16 = .ok (.aload_n 0, 1) := by decide +kernel
theorem dX8_sew_17 : decode cX8_sew 17 = .ok (.getfield 69, 3) := by decide +kernel
theorem dX8_sew_20 : decode cX8_sew 20 = .ok (.aload_n 0, 1) := by decide +kernel
theorem dX8_sew_21 : decode cX8_sew 21 = .ok (.iload_n 3, 1) := by decide +kernel
theorem dX8_sew_22 : decode cX8_sew 22 = .ok (.invokevirtual 232, 3) := by decide +kernel
theorem dX8_sew_25 : decode cX8_sew 25 = .ok (.aload_n 0, 1) := by decide +kernel
theorem dX8_sew_26 : decode cX8_sew 26 = .ok (.iload_n 2, 1) := by decide +kernel
theorem dX8_sew_27 : decode cX8_sew 27 = .ok (.invokevirtual 232, 3) := by decide +kernel
theorem dX8_sew_30 : decode cX8_sew 30 = .ok (.iastore, 1) := by decide +kernel
theorem dX8_sew_31 : decode cX8_sew 31 = .ok (.return_, 1) := by decide +kernel
theorem dX8_sew_32 : decode cX8_sew 32 = .ok (.iload_n 2, 1) := by decide +kernel
theorem dX8_sew_33 : decode cX8_sew 33 = .ok (.istore 5, 2) := by decide +kernel
theorem dX8_sew_35 : decode cX8_sew 35 = .ok (.iconst 0, 1) := by decide +kernel
theorem dX8_sew_36 : decode cX8_sew 36 = .ok (.istore 6, 2) := by decide +kernel
theorem dX8_sew_38 : decode cX8_sew 38 = .ok (.iload 6, 2) := by decide +kernel
theorem dX8_sew_40 : decode cX8_sew 40 = .ok (.iload 4, 2) := by decide +kernel
theorem dX8_sew_42 : decode cX8_sew 42 = .ok (.if_icmp .ge 47, 3) := by decide +kernel
theorem dX8_sew_45 : decode cX8_sew 45 = .ok (.iload 6, 2) := by decide +kernel
theorem dX8_sew_47 : decode cX8_sew 47 = .ok (.iload 4, 2) := by decide +kernel
theorem dX8_sew_49 : decode cX8_sew 49 = .ok (.iconst 1, 1) := by decide +kernel
theorem dX8_sew_50 : decode cX8_sew 50 = .ok (.isub, 1) := by decide +kernel
theorem dX8_sew_51 : decode cX8_sew 51 = .ok (.if_icmp .ne 7, 3) := by decide +kernel
theorem dX8_sew_54 : decode cX8_sew 54 = .ok (.iload_n 3, 1) := by decide +kernel
theorem dX8_sew_55 : decode cX8_sew 55 = .ok (.goto 7, 3) := by decide +kernel
theorem dX8_sew_58 : decode cX8_sew 58 = .ok (.aload_n 0, 1) := by decide +kernel
theorem dX8_sew_59 : decode cX8_sew 59 = .ok (.invokevirtual 262, 3) := by decide +kernel
theorem dX8_sew_62 : decode cX8_sew 62 = .ok (.istore 7, 2) := by decide +kernel
theorem dX8_sew_64 : decode cX8_sew 64 = .ok (.aload_n 0, 1) := by decide +kernel
theorem dX8_sew_65 : decode cX8_sew 65 = .ok (.iload 5, 2) := by decide +kernel
theorem dX8_sew_67 : decode cX8_sew 67 = .ok (.aload_n 0, 1) := by decide +kernel
theorem dX8_sew_68 : decode cX8_sew 68 = .ok (.iload_n 1, 1) := by decide +kernel
theorem dX8_sew_69 : decode cX8_sew 69 = .ok (.iload 6, 2) := by decide +kernel
theorem dX8_sew_71 : decode cX8_sew 71 = .ok (.invokevirtual 253, 3) := by decide +kernel
theorem dX8_sew_74 : decode cX8_sew 74 = .ok (.iload 7, 2) := by decide +kernel
theorem dX8_sew_76 : decode cX8_sew 76 = .ok (.invokevirtual 244, 3) := by decide +kernel
theorem dX8_sew_79 : decode cX8_sew 79 = .ok (.iload 7, 2) := by decide +kernel
theorem dX8_sew_81 : decode cX8_sew 81 = .ok (.istore 5, 2) := by decide +kernel
theorem dX8_sew_83 : decode cX8_sew 83 = .ok (.iinc 6 1, 3) := by decide +kernel
theorem dX8_sew_86 : decode cX8_sew 86 = .ok (.goto (-48), 3) := by decide +kernel
theorem dX8_sew_89 : decode cX8_sew 89 = .ok (.return_, 1) := by decide +kernel
theorem dX8_layRow_0 : decode cX8_layRow 0 = .ok (.aload_n 0, 1) := by decide +kernel
theorem dX8_layRow_1 : decode cX8_layRow 1 = .ok (.iconst 0, 1) := by decide +kernel
theorem dX8_layRow_2 : decode cX8_layRow 2 = .ok (.putfield 229, 3) := by decide +kernel
theorem dX8_layRow_5 : decode cX8_layRow 5 = .ok (.aload_n 0, 1) := by decide +kernel
theorem dX8_layRow_6 : decode cX8_layRow 6 = .ok (.iconst 0, 1) := by decide +kernel
theorem dX8_layRow_7 : decode cX8_layRow 7 = .ok (.putfield 226, 3) := by decide +kernel
theorem dX8_layRow_10 : decode cX8_layRow 10 = .ok (.aload_n 0, 1) := by decide +kernel
theorem dX8_layRow_11 : decode cX8_layRow 11 = .ok (.aload_n 0, 1) := by decide +kernel
theorem dX8_layRow_12 : decode cX8_layRow 12 = .ok (.invokevirtual 262, 3) := by decide +kernel
theorem dX8_layRow_15 : decode cX8_layRow 15 = .ok (.putfield 238, 3) := by decide +kernel
theorem dX8_layRow_18 : decode cX8_layRow 18 = .ok (.aload_n 0, 1) := by decide +kernel
theorem dX8_layRow_19 : decode cX8_layRow 19 = .ok (.aload_n 0, 1) := by decide +kernel
theorem dX8_layRow_20 : decode cX8_layRow 20 = .ok (.getfield 238, 3) := by decide +kernel
theorem dX8_layRow_23 : decode cX8_layRow 23 = .ok (.putfield 241, 3) := by decide +kernel
theorem dX8_layRow_26 : decode cX8_layRow 26 = .ok (.iconst 0, 1) := by decide +kernel
theorem dX8_layRow_27 : decode cX8_layRow 27 = .ok (.istore_n 2, 1) := by decide +kernel
theorem dX8_layRow_28 : decode cX8_layRow 28 = .ok (.iload_n 2, 1) := by decide +kernel
theorem dX8_layRow_29 : decode cX8_layRow 29 = .ok (.aload_n 0, 1) := by decide +kernel
theorem dX8_layRow_30 : decode cX8_layRow 30 = .ok (.getfield 7, 3) := by decide +kernel
theorem dX8_layRow_33 : decode cX8_layRow 33 = .ok (.bipush 6, 2) := by decide +kernel
theorem dX8_layRow_35 : decode cX8_layRow 35 = .ok (.iload_n 1, 1) := by decide +kernel
theorem dX8_layRow_36 : decode cX8_layRow 36 = .ok (.iadd, 1) := by decide +kernel
theorem dX8_layRow_37 : decode cX8_layRow 37 = .ok (.iaload, 1) := by decide +kernel
theorem dX8_layRow_38 : decode cX8_layRow 38 = .ok (.if_icmp .ge 42, 3) := by decide +kernel
theorem dX8_layRow_41 : decode cX8_layRow 41 = .ok (.aload_n 0, 1) := by decide +kernel
theorem dX8_layRow_42 : decode cX8_layRow 42 = .ok (.invokevirtual 262, 3) := by decide +kernel
theorem dX8_layRow_45 : decode cX8_layRow 45 = .ok (.istore_n 3, 1) := by decide +kernel
theorem dX8_layRow_46 : decode cX8_layRow 46 = .ok (.aload_n 0, 1) := by decide +kernel
theorem dX8_layRow_47 : decode cX8_layRow 47 = .ok (.aload_n 0, 1) := by decide +kernel
theorem dX8_layRow_48 : decode cX8_layRow 48 = .ok (.getfield 241, 3) := by decide +kernel
theorem dX8_layRow_51 : decode cX8_layRow 51 = .ok (.aload_n 0, 1) := by decide +kernel
theorem dX8_layRow_52 : decode cX8_layRow 52 = .ok (.getfield 7, 3) := by decide +kernel
theorem dX8_layRow_55 : decode cX8_layRow 55 = .ok (.bipush 10, 2) := by decide +kernel
theorem dX8_layRow_57 : decode cX8_layRow 57 = .ok (.bipush 12, 2) := by decide +kernel
theorem dX8_layRow_59 : decode cX8_layRow 59 = .ok (.iload_n 1, 1) := by decide +kernel
theorem dX8_layRow_60 : decode cX8_layRow 60 = .ok (.imul, 1) := by decide +kernel
theorem dX8_layRow_61 : decode cX8_layRow 61 = .ok (.iadd, 1) := by decide +kernel
theorem dX8_layRow_62 : decode cX8_layRow 62 = .ok (.iload_n 2, 1) := by decide +kernel
theorem dX8_layRow_63 : decode cX8_layRow 63 = .ok (.iadd, 1) := by decide +kernel
theorem dX8_layRow_64 : decode cX8_layRow 64 = .ok (.iaload, 1) := by decide +kernel
theorem dX8_layRow_65 : decode cX8_layRow 65 = .ok (.iload_n 3, 1) := by decide +kernel
theorem dX8_layRow_66 : decode cX8_layRow 66 = .ok (.invokevirtual 244, 3) := by decide +kernel
theorem dX8_layRow_69 : decode cX8_layRow 69 = .ok (.aload_n 0, 1) := by decide +kernel
theorem dX8_layRow_70 : decode cX8_layRow 70 = .ok (.iload_n 3, 1) := by decide +kernel
theorem dX8_layRow_71 : decode cX8_layRow 71 = .ok (.putfield 241, 3) := by decide +kernel
theorem dX8_layRow_74 : decode cX8_layRow 74 = .ok (.iinc 2 1, 3) := by decide +kernel
theorem dX8_layRow_77 : decode cX8_layRow 77 = .ok (.goto (-49), 3) := by decide +kernel
theorem dX8_layRow_80 : decode cX8_layRow 80 = .ok (.aload_n 0, 1) := by decide +kernel
theorem dX8_layRow_81 : decode cX8_layRow 81 = .ok (.invokevirtual 265, 3) := by decide +kernel
theorem dX8_layRow_84 : decode cX8_layRow 84 = .ok (.return_, 1) := by decide +kernel
theorem dX8_layNet_0 : decode cX8_layNet 0 = .ok (.aload_n 0, 1) := by decide +kernel
theorem dX8_layNet_1 : decode cX8_layNet 1 = .ok (.iload_n 1, 1) := by decide +kernel
theorem dX8_layNet_2 : decode cX8_layNet 2 = .ok (.invokevirtual 268, 3) := by decide +kernel
theorem dX8_layNet_5 : decode cX8_layNet 5 = .ok (.aload_n 0, 1) := by decide +kernel
theorem dX8_layNet_6 : decode cX8_layNet 6 = .ok (.iconst 0, 1) := by decide +kernel
theorem dX8_layNet_7 : decode cX8_layNet 7 = .ok (.putfield 271, 3) := by decide +kernel
theorem dX8_layNet_10 : decode cX8_layNet 10 = .ok (.aload_n 0, 1) := by decide +kernel
theorem dX8_layNet_11 : decode cX8_layNet 11 = .ok (.invokevirtual 274, 3) := by decide +kernel
theorem dX8_layNet_14 : decode cX8_layNet 14 = .ok (.aload_n 0, 1) := by decide +kernel
theorem dX8_layNet_15 : decode cX8_layNet 15 = .ok (.getfield 256, 3) := by decide +kernel
theorem dX8_layNet_18 : decode cX8_layNet 18 = .ok (.ifCond .le 84, 3) := by decide +kernel
theorem dX8_layNet_21 : decode cX8_layNet 21 = .ok (.aload_n 0, 1) := by decide +kernel
theorem dX8_layNet_22 : decode cX8_layNet 22 = .ok (.getfield 271, 3) := by decide +kernel
theorem dX8_layNet_25 : decode cX8_layNet 25 = .ok (.bipush 20, 2) := by decide +kernel
theorem dX8_layNet_27 : decode cX8_layNet 27 = .ok (.if_icmp .ne 5, 3) := by decide +kernel
theorem dX8_layNet_30 : decode cX8_layNet 30 = .ok (.iconst 0, 1) := by decide +kernel
theorem dX8_layNet_31 : decode cX8_layNet 31 = .ok (.ireturn, 1) := by decide +kernel
theorem dX8_layNet_32 : decode cX8_layNet 32 = .ok (.iconst 0, 1) := by decide +kernel
theorem dX8_layNet_33 : decode cX8_layNet 33 = .ok (.istore_n 2, 1) := by decide +kernel
theorem dX8_layNet_34 : decode cX8_layNet 34 = .ok (.iload_n 2, 1) := by decide +kernel
theorem dX8_layNet_35 : decode cX8_layNet 35 = .ok (.aload_n 0, 1) := by decide +kernel
theorem dX8_layNet_36 : decode cX8_layNet 36 = .ok (.getfield 256, 3) := by decide +kernel
theorem dX8_layNet_39 : decode cX8_layNet 39 = .ok (.if_icmp .ge 31, 3) := by decide +kernel
theorem dX8_layNet_42 : decode cX8_layNet 42 = .ok (.aload_n 0, 1) := by decide +kernel
theorem dX8_layNet_43 : decode cX8_layNet 43 = .ok (.aload_n 0, 1) := by decide +kernel
theorem dX8_layNet_44 : decode cX8_layNet 44 = .ok (.getfield 78, 3) := by decide +kernel
theorem dX8_layNet_47 : decode cX8_layNet 47 = .ok (.iload_n 2, 1) := by decide +kernel
theorem dX8_layNet_48 : decode cX8_layNet 48 = .ok (.iaload, 1) := by decide +kernel
theorem dX8_layNet_49 : decode cX8_layNet 49 = .ok (.aload_n 0, 1) := by decide +kernel
theorem dX8_layNet_50 : decode cX8_layNet 50 = .ok (.getfield 81, 3) := by decide +kernel
theorem dX8_layNet_53 : decode cX8_layNet 53 = .ok (.iload_n 2, 1) := by decide +kernel
theorem dX8_layNet_54 : decode cX8_layNet 54 = .ok (.iaload, 1) := by decide +kernel
theorem dX8_layNet_55 : decode cX8_layNet 55 = .ok (.aload_n 0, 1) := by decide +kernel
theorem dX8_layNet_56 : decode cX8_layNet 56 = .ok (.getfield 84, 3) := by decide +kernel
theorem dX8_layNet_59 : decode cX8_layNet 59 = .ok (.iload_n 2, 1) := by decide +kernel
theorem dX8_layNet_60 : decode cX8_layNet 60 = .ok (.iaload, 1) := by decide +kernel
theorem dX8_layNet_61 : decode cX8_layNet 61 = .ok (.invokevirtual 277, 3) := by decide +kernel
theorem dX8_layNet_64 : decode cX8_layNet 64 = .ok (.iinc 2 1, 3) := by decide +kernel
theorem dX8_layNet_67 : decode cX8_layNet 67 = .ok (.goto (-33), 3) := by decide +kernel
theorem dX8_layNet_70 : decode cX8_layNet 70 = .ok (.aload_n 0, 1) := by decide +kernel
theorem dX8_layNet_71 : decode cX8_layNet 71 = .ok (.invokevirtual 265, 3) := by decide +kernel
theorem dX8_layNet_74 : decode cX8_layNet 74 = .ok (.aload_n 0, 1) := by decide +kernel
theorem dX8_layNet_75 : decode cX8_layNet 75 = .ok (.dup, 1) := by decide +kernel
theorem dX8_layNet_76 : decode cX8_layNet 76 = .ok (.getfield 271, 3) := by decide +kernel
theorem dX8_layNet_79 : decode cX8_layNet 79 = .ok (.iconst 1, 1) := by decide +kernel
theorem dX8_layNet_80 : decode cX8_layNet 80 = .ok (.iadd, 1) := by decide +kernel
theorem dX8_layNet_81 : decode cX8_layNet 81 = .ok (.putfield 271, 3) := by decide +kernel
theorem dX8_layNet_84 : decode cX8_layNet 84 = .ok (.aload_n 0, 1) := by decide +kernel
theorem dX8_layNet_85 : decode cX8_layNet 85 = .ok (.getfield 226, 3) := by decide +kernel
theorem dX8_layNet_88 : decode cX8_layNet 88 = .ok (.bipush 24, 2) := by decide +kernel
theorem dX8_layNet_90 : decode cX8_layNet 90 = .ok (.if_icmp .le 5, 3) := by decide +kernel
theorem dX8_layNet_93 : decode cX8_layNet 93 = .ok (.iconst 0, 1) := by decide +kernel
theorem dX8_layNet_94 : decode cX8_layNet 94 = .ok (.ireturn, 1) := by decide +kernel
theorem dX8_layNet_95 : decode cX8_layNet 95 = .ok (.aload_n 0, 1) := by decide +kernel
theorem dX8_layNet_96 : decode cX8_layNet 96 = .ok (.invokevirtual 274, 3) := by decide +kernel
theorem dX8_layNet_99 : decode cX8_layNet 99 = .ok (.goto (-85), 3) := by decide +kernel
theorem dX8_layNet_102 : decode cX8_layNet 102 = .ok (.iconst 1, 1) := by decide +kernel
theorem dX8_layNet_103 : decode cX8_layNet 103 = .ok (.ireturn, 1) := by decide +kernel
theorem dX8_net_0 : decode cX8_net 0 = .ok (.iload_n 1, 1) := by decide +kernel
theorem dX8_net_1 : decode cX8_net 1 = .ok (.invokestatic 151, 3) := by decide +kernel
theorem dX8_net_4 : decode cX8_net 4 = .ok (.ifCond .ne 5, 3) := by decide +kernel
theorem dX8_net_7 : decode cX8_net 7 = .ok (.iconst (-1), 1) := by decide +kernel
theorem dX8_net_8 : decode cX8_net 8 = .ok (.ireturn, 1) := by decide +kernel
theorem dX8_net_9 : decode cX8_net 9 = .ok (.iload_n 2, 1) := by decide +kernel
theorem dX8_net_10 : decode cX8_net 10 = .ok (.iconst 0, 1) := by decide +kernel
theorem dX8_net_11 : decode cX8_net 11 = .ok (.iconst 2, 1) := by decide +kernel
theorem dX8_net_12 : decode cX8_net 12 = .ok (.invokestatic 91, 3) := by decide +kernel
theorem dX8_net_15 : decode cX8_net 15 = .ok (.ifCond .ne 6, 3) := by decide +kernel
theorem dX8_net_18 : decode cX8_net 18 = .ok (.bipush (-2), 2) := by decide +kernel
theorem dX8_net_20 : decode cX8_net 20 = .ok (.ireturn, 1) := by decide +kernel
theorem dX8_net_21 : decode cX8_net 21 = .ok (.aload_n 0, 1) := by decide +kernel
theorem dX8_net_22 : decode cX8_net 22 = .ok (.iload_n 1, 1) := by decide +kernel
theorem dX8_net_23 : decode cX8_net 23 = .ok (.invokevirtual 280, 3) := by decide +kernel
theorem dX8_net_26 : decode cX8_net 26 = .ok (.ifCond .ne 6, 3) := by decide +kernel
theorem dX8_net_29 : decode cX8_net 29 = .ok (.bipush (-6), 2) := by decide +kernel
theorem dX8_net_31 : decode cX8_net 31 = .ok (.ireturn, 1) := by decide +kernel
theorem dX8_net_32 : decode cX8_net 32 = .ok (.iload_n 2, 1) := by decide +kernel
theorem dX8_net_33 : decode cX8_net 33 = .ok (.ifCond .ne 10, 3) := by decide +kernel
theorem dX8_net_36 : decode cX8_net 36 = .ok (.aload_n 0, 1) := by decide +kernel
theorem dX8_net_37 : decode cX8_net 37 = .ok (.getfield 226, 3) := by decide +kernel
theorem dX8_net_40 : decode cX8_net 40 = .ok (.goto 19, 3) := by decide +kernel
theorem dX8_net_43 : decode cX8_net 43 = .ok (.iload_n 2, 1) := by decide +kernel
theorem dX8_net_44 : decode cX8_net 44 = .ok (.iconst 1, 1) := by decide +kernel
theorem dX8_net_45 : decode cX8_net 45 = .ok (.if_icmp .ne 10, 3) := by decide +kernel
theorem dX8_net_48 : decode cX8_net 48 = .ok (.aload_n 0, 1) := by decide +kernel
theorem dX8_net_49 : decode cX8_net 49 = .ok (.getfield 229, 3) := by decide +kernel
theorem dX8_net_52 : decode cX8_net 52 = .ok (.goto 7, 3) := by decide +kernel
theorem dX8_net_55 : decode cX8_net 55 = .ok (.aload_n 0, 1) := by decide +kernel
theorem dX8_net_56 : decode cX8_net 56 = .ok (.getfield 271, 3) := by decide +kernel
theorem dX8_net_59 : decode cX8_net 59 = .ok (.ireturn, 1) := by decide +kernel
theorem dX8_reads_0 : decode cX8_reads 0 = .ok (.iload_n 1, 1) := by decide +kernel
theorem dX8_reads_1 : decode cX8_reads 1 = .ok (.invokestatic 151, 3) := by decide +kernel
theorem dX8_reads_4 : decode cX8_reads 4 = .ok (.ifCond .eq 10, 3) := by decide +kernel
theorem dX8_reads_7 : decode cX8_reads 7 = .ok (.iload_n 2, 1) := by decide +kernel
theorem dX8_reads_8 : decode cX8_reads 8 = .ok (.invokestatic 151, 3) := by decide +kernel
theorem dX8_reads_11 : decode cX8_reads 11 = .ok (.ifCond .ne 5, 3) := by decide +kernel
theorem dX8_reads_14 : decode cX8_reads 14 = .ok (.iconst (-1), 1) := by decide +kernel
theorem dX8_reads_15 : decode cX8_reads 15 = .ok (.ireturn, 1) := by decide +kernel
theorem dX8_reads_16 : decode cX8_reads 16 = .ok (.aload_n 0, 1) := by decide +kernel
theorem dX8_reads_17 : decode cX8_reads 17 = .ok (.iload_n 1, 1) := by decide +kernel
theorem dX8_reads_18 : decode cX8_reads 18 = .ok (.invokevirtual 280, 3) := by decide +kernel
theorem dX8_reads_21 : decode cX8_reads 21 = .ok (.ifCond .ne 6, 3) := by decide +kernel
theorem dX8_reads_24 : decode cX8_reads 24 = .ok (.bipush (-6), 2) := by decide +kernel
theorem dX8_reads_26 : decode cX8_reads 26 = .ok (.ireturn, 1) := by decide +kernel
theorem dX8_reads_27 : decode cX8_reads 27 = .ok (.aload_n 0, 1) := by decide +kernel
theorem dX8_reads_28 : decode cX8_reads 28 = .ok (.iload_n 2, 1) := by decide +kernel
theorem dX8_reads_29 : decode cX8_reads 29 = .ok (.aload_n 0, 1) := by decide +kernel
theorem dX8_reads_30 : decode cX8_reads 30 = .ok (.getfield 238, 3) := by decide +kernel
theorem dX8_reads_33 : decode cX8_reads 33 = .ok (.invokevirtual 283, 3) := by decide +kernel
theorem dX8_reads_36 : decode cX8_reads 36 = .ok (.aload_n 0, 1) := by decide +kernel
theorem dX8_reads_37 : decode cX8_reads 37 = .ok (.getfield 241, 3) := by decide +kernel
theorem dX8_reads_40 : decode cX8_reads 40 = .ok (.if_icmp .ne 7, 3) := by decide +kernel
theorem dX8_reads_43 : decode cX8_reads 43 = .ok (.iconst 1, 1) := by decide +kernel
theorem dX8_reads_44 : decode cX8_reads 44 = .ok (.goto 4, 3) := by decide +kernel
theorem dX8_reads_47 : decode cX8_reads 47 = .ok (.iconst 0, 1) := by decide +kernel
theorem dX8_reads_48 : decode cX8_reads 48 = .ok (.ireturn, 1) := by decide +kernel
theorem dX8_image_0 : decode cX8_image 0 = .ok (.iload_n 1, 1) := by decide +kernel
theorem dX8_image_1 : decode cX8_image 1 = .ok (.iconst 0, 1) := by decide +kernel
theorem dX8_image_2 : decode cX8_image 2 = .ok (.iconst 1, 1) := by decide +kernel
theorem dX8_image_3 : decode cX8_image 3 = .ok (.invokestatic 91, 3) := by decide +kernel
theorem dX8_image_6 : decode cX8_image 6 = .ok (.ifCond .ne 6, 3) := by decide +kernel
theorem dX8_image_9 : decode cX8_image 9 = .ok (.bipush (-2), 2) := by decide +kernel
theorem dX8_image_11 : decode cX8_image 11 = .ok (.ireturn, 1) := by decide +kernel
theorem dX8_image_12 : decode cX8_image 12 = .ok (.iconst 0, 1) := by decide +kernel
theorem dX8_image_13 : decode cX8_image 13 = .ok (.istore_n 2, 1) := by decide +kernel
theorem dX8_image_14 : decode cX8_image 14 = .ok (.iload_n 2, 1) := by decide +kernel
theorem dX8_image_15 : decode cX8_image 15 = .ok (.bipush 112, 2) := by decide +kernel
theorem dX8_image_17 : decode cX8_image 17 = .ok (.if_icmp .ge 26, 3) := by decide +kernel
theorem dX8_image_20 : decode cX8_image 20 = .ok (.aload_n 0, 1) := by decide +kernel
theorem dX8_image_21 : decode cX8_image 21 = .ok (.getfield 13, 3) := by decide +kernel
theorem dX8_image_24 : decode cX8_image 24 = .ok (.bipush 112, 2) := by decide +kernel
theorem dX8_image_26 : decode cX8_image 26 = .ok (.iload_n 1, 1) := by decide +kernel
theorem dX8_image_27 : decode cX8_image 27 = .ok (.imul, 1) := by decide +kernel
theorem dX8_image_28 : decode cX8_image 28 = .ok (.iload_n 2, 1) := by decide +kernel
theorem dX8_image_29 : decode cX8_image 29 = .ok (.iadd, 1) := by decide +kernel
theorem dX8_image_30 : decode cX8_image 30 = .ok (.aload_n 0, 1) := by decide +kernel
theorem dX8_image_31 : decode cX8_image 31 = .ok (.getfield 7, 3) := by decide +kernel
theorem dX8_image_34 : decode cX8_image 34 = .ok (.iload_n 2, 1) := by decide +kernel
theorem dX8_image_35 : decode cX8_image 35 = .ok (.iaload, 1) := by decide +kernel
theorem dX8_image_36 : decode cX8_image 36 = .ok (.iastore, 1) := by decide +kernel
theorem dX8_image_37 : decode cX8_image 37 = .ok (.iinc 2 1, 3) := by decide +kernel
theorem dX8_image_40 : decode cX8_image 40 = .ok (.goto (-26), 3) := by decide +kernel
theorem dX8_image_43 : decode cX8_image 43 = .ok (.aload_n 0, 1) := by decide +kernel
theorem dX8_image_44 : decode cX8_image 44 = .ok (.getfield 16, 3) := by decide +kernel
theorem dX8_image_47 : decode cX8_image 47 = .ok (.iload_n 1, 1) := by decide +kernel
theorem dX8_image_48 : decode cX8_image 48 = .ok (.iconst 1, 1) := by decide +kernel
theorem dX8_image_49 : decode cX8_image 49 = .ok (.bastore, 1) := by decide +kernel
theorem dX8_image_50 : decode cX8_image 50 = .ok (.iconst 1, 1) := by decide +kernel
theorem dX8_image_51 : decode cX8_image 51 = .ok (.ireturn, 1) := by decide +kernel
theorem dX8_restore_0 : decode cX8_restore 0 = .ok (.iload_n 1, 1) := by decide +kernel
theorem dX8_restore_1 : decode cX8_restore 1 = .ok (.iconst 0, 1) := by decide +kernel
theorem dX8_restore_2 : decode cX8_restore 2 = .ok (.iconst 1, 1) := by decide +kernel
theorem dX8_restore_3 : decode cX8_restore 3 = .ok (.invokestatic 91, 3) := by decide +kernel
theorem dX8_restore_6 : decode cX8_restore 6 = .ok (.ifCond .ne 6, 3) := by decide +kernel
theorem dX8_restore_9 : decode cX8_restore 9 = .ok (.bipush (-2), 2) := by decide +kernel
theorem dX8_restore_11 : decode cX8_restore 11 = .ok (.ireturn, 1) := by decide +kernel
theorem dX8_restore_12 : decode cX8_restore 12 = .ok (.aload_n 0, 1) := by decide +kernel
theorem dX8_restore_13 : decode cX8_restore 13 = .ok (.getfield 16, 3) := by decide +kernel
theorem dX8_restore_16 : decode cX8_restore 16 = .ok (.iload_n 1, 1) := by decide +kernel
theorem dX8_restore_17 : decode cX8_restore 17 = .ok (.baload, 1) := by decide +kernel
theorem dX8_restore_18 : decode cX8_restore 18 = .ok (.ifCond .ne 6, 3) := by decide +kernel
theorem dX8_restore_21 : decode cX8_restore 21 = .ok (.bipush (-3), 2) := by decide +kernel
theorem dX8_restore_23 : decode cX8_restore 23 = .ok (.ireturn, 1) := by decide +kernel
theorem dX8_restore_24 : decode cX8_restore 24 = .ok (.iconst 0, 1) := by decide +kernel
theorem dX8_restore_25 : decode cX8_restore 25 = .ok (.istore_n 2, 1) := by decide +kernel
theorem dX8_restore_26 : decode cX8_restore 26 = .ok (.iload_n 2, 1) := by decide +kernel
theorem dX8_restore_27 : decode cX8_restore 27 = .ok (.bipush 112, 2) := by decide +kernel
theorem dX8_restore_29 : decode cX8_restore 29 = .ok (.if_icmp .ge 26, 3) := by decide +kernel
theorem dX8_restore_32 : decode cX8_restore 32 = .ok (.aload_n 0, 1) := by decide +kernel
theorem dX8_restore_33 : decode cX8_restore 33 = .ok (.getfield 7, 3) := by decide +kernel
theorem dX8_restore_36 : decode cX8_restore 36 = .ok (.iload_n 2, 1) := by decide +kernel
theorem dX8_restore_37 : decode cX8_restore 37 = .ok (.aload_n 0, 1) := by decide +kernel
theorem dX8_restore_38 : decode cX8_restore 38 = .ok (.getfield 13, 3) := by decide +kernel
theorem dX8_restore_41 : decode cX8_restore 41 = .ok (.bipush 112, 2) := by decide +kernel
theorem dX8_restore_43 : decode cX8_restore 43 = .ok (.iload_n 1, 1) := by decide +kernel
theorem dX8_restore_44 : decode cX8_restore 44 = .ok (.imul, 1) := by decide +kernel
theorem dX8_restore_45 : decode cX8_restore 45 = .ok (.iload_n 2, 1) := by decide +kernel
theorem dX8_restore_46 : decode cX8_restore 46 = .ok (.iadd, 1) := by decide +kernel
theorem dX8_restore_47 : decode cX8_restore 47 = .ok (.iaload, 1) := by decide +kernel
theorem dX8_restore_48 : decode cX8_restore 48 = .ok (.iastore, 1) := by decide +kernel
theorem dX8_restore_49 : decode cX8_restore 49 = .ok (.iinc 2 1, 3) := by decide +kernel
theorem dX8_restore_52 : decode cX8_restore 52 = .ok (.goto (-26), 3) := by decide +kernel
theorem dX8_restore_55 : decode cX8_restore 55 = .ok (.iconst 1, 1) := by decide +kernel
theorem dX8_restore_56 : decode cX8_restore 56 = .ok (.ireturn, 1) := by decide +kernel
theorem dX8_unlike_0 : decode cX8_unlike 0 = .ok (.iconst 0, 1) := by decide +kernel
theorem dX8_unlike_1 : decode cX8_unlike 1 = .ok (.istore_n 1, 1) := by decide +kernel
theorem dX8_unlike_2 : decode cX8_unlike 2 = .ok (.iconst 0, 1) := by decide +kernel
theorem dX8_unlike_3 : decode cX8_unlike 3 = .ok (.istore_n 2, 1) := by decide +kernel
theorem dX8_unlike_4 : decode cX8_unlike 4 = .ok (.iload_n 2, 1) := by decide +kernel
theorem dX8_unlike_5 : decode cX8_unlike 5 = .ok (.bipush 6, 2) := by decide +kernel
theorem dX8_unlike_7 : decode cX8_unlike 7 = .ok (.if_icmp .ge 68, 3) := by decide +kernel
theorem dX8_unlike_10 : decode cX8_unlike 10 = .ok (.iconst 1, 1) := by decide +kernel
theorem dX8_unlike_11 : decode cX8_unlike 11 = .ok (.istore_n 3, 1) := by decide +kernel
theorem dX8_unlike_12 : decode cX8_unlike 12 = .ok (.iconst 0, 1) := by decide +kernel
theorem dX8_unlike_13 : decode cX8_unlike 13 = .ok (.istore 4, 2) := by decide +kernel
theorem dX8_unlike_15 : decode cX8_unlike 15 = .ok (.iload 4, 2) := by decide +kernel
theorem dX8_unlike_17 : decode cX8_unlike 17 = .ok (.iload_n 2, 1) := by decide +kernel
theorem dX8_unlike_18 : decode cX8_unlike 18 = .ok (.if_icmp .ge 39, 3) := by decide +kernel
theorem dX8_unlike_21 : decode cX8_unlike 21 = .ok (.iload_n 3, 1) := by decide +kernel
theorem dX8_unlike_22 : decode cX8_unlike 22 = .ok (.ifCond .eq 27, 3) := by decide +kernel
theorem dX8_unlike_25 : decode cX8_unlike 25 = .ok (.aload_n 0, 1) := by decide +kernel
theorem dX8_unlike_26 : decode cX8_unlike 26 = .ok (.getfield 7, 3) := by decide +kernel
theorem dX8_unlike_29 : decode cX8_unlike 29 = .ok (.iconst 0, 1) := by decide +kernel
theorem dX8_unlike_30 : decode cX8_unlike 30 = .ok (.iload 4, 2) := by decide +kernel
theorem dX8_unlike_32 : decode cX8_unlike 32 = .ok (.iadd, 1) := by decide +kernel
theorem dX8_unlike_33 : decode cX8_unlike 33 = .ok (.iaload, 1) := by decide +kernel
theorem dX8_unlike_34 : decode cX8_unlike 34 = .ok (.aload_n 0, 1) := by decide +kernel
theorem dX8_unlike_35 : decode cX8_unlike 35 = .ok (.getfield 7, 3) := by decide +kernel
theorem dX8_unlike_38 : decode cX8_unlike 38 = .ok (.iconst 0, 1) := by decide +kernel
theorem dX8_unlike_39 : decode cX8_unlike 39 = .ok (.iload_n 2, 1) := by decide +kernel
theorem dX8_unlike_40 : decode cX8_unlike 40 = .ok (.iadd, 1) := by decide +kernel
theorem dX8_unlike_41 : decode cX8_unlike 41 = .ok (.iaload, 1) := by decide +kernel
theorem dX8_unlike_42 : decode cX8_unlike 42 = .ok (.if_icmp .eq 7, 3) := by decide +kernel
theorem dX8_unlike_45 : decode cX8_unlike 45 = .ok (.iconst 1, 1) := by decide +kernel
theorem dX8_unlike_46 : decode cX8_unlike 46 = .ok (.goto 4, 3) := by decide +kernel
theorem dX8_unlike_49 : decode cX8_unlike 49 = .ok (.iconst 0, 1) := by decide +kernel
theorem dX8_unlike_50 : decode cX8_unlike 50 = .ok (.istore_n 3, 1) := by decide +kernel
theorem dX8_unlike_51 : decode cX8_unlike 51 = .ok (.iinc 4 1, 3) := by decide +kernel
theorem dX8_unlike_54 : decode cX8_unlike 54 = .ok (.goto (-39), 3) := by decide +kernel
theorem dX8_unlike_57 : decode cX8_unlike 57 = .ok (.iload_n 1, 1) := by decide +kernel
theorem dX8_unlike_58 : decode cX8_unlike 58 = .ok (.iload_n 3, 1) := by decide +kernel
theorem dX8_unlike_59 : decode cX8_unlike 59 = .ok (.ifCond .eq 7, 3) := by decide +kernel
theorem dX8_unlike_62 : decode cX8_unlike 62 = .ok (.iconst 1, 1) := by decide +kernel
theorem dX8_unlike_63 : decode cX8_unlike 63 = .ok (.goto 4, 3) := by decide +kernel
theorem dX8_unlike_66 : decode cX8_unlike 66 = .ok (.iconst 0, 1) := by decide +kernel
theorem dX8_unlike_67 : decode cX8_unlike 67 = .ok (.iadd, 1) := by decide +kernel
theorem dX8_unlike_68 : decode cX8_unlike 68 = .ok (.istore_n 1, 1) := by decide +kernel
theorem dX8_unlike_69 : decode cX8_unlike 69 = .ok (.iinc 2 1, 3) := by decide +kernel
theorem dX8_unlike_72 : decode cX8_unlike 72 = .ok (.goto (-68), 3) := by decide +kernel
theorem dX8_unlike_75 : decode cX8_unlike 75 = .ok (.iload_n 1, 1) := by decide +kernel
theorem dX8_unlike_76 : decode cX8_unlike 76 = .ok (.ireturn, 1) := by decide +kernel
theorem dX8_ranks_0 : decode cX8_ranks 0 = .ok (.iconst 0, 1) := by decide +kernel
theorem dX8_ranks_1 : decode cX8_ranks 1 = .ok (.istore_n 1, 1) := by decide +kernel
theorem dX8_ranks_2 : decode cX8_ranks 2 = .ok (.iconst 0, 1) := by decide +kernel
theorem dX8_ranks_3 : decode cX8_ranks 3 = .ok (.istore_n 2, 1) := by decide +kernel
theorem dX8_ranks_4 : decode cX8_ranks 4 = .ok (.iload_n 2, 1) := by decide +kernel
theorem dX8_ranks_5 : decode cX8_ranks 5 = .ok (.bipush 6, 2) := by decide +kernel
theorem dX8_ranks_7 : decode cX8_ranks 7 = .ok (.if_icmp .ge 23, 3) := by decide +kernel
theorem dX8_ranks_10 : decode cX8_ranks 10 = .ok (.iload_n 1, 1) := by decide +kernel
theorem dX8_ranks_11 : decode cX8_ranks 11 = .ok (.aload_n 0, 1) := by decide +kernel
theorem dX8_ranks_12 : decode cX8_ranks 12 = .ok (.getfield 7, 3) := by decide +kernel
theorem dX8_ranks_15 : decode cX8_ranks 15 = .ok (.iconst 0, 1) := by decide +kernel
theorem dX8_ranks_16 : decode cX8_ranks 16 = .ok (.iload_n 2, 1) := by decide +kernel
theorem dX8_ranks_17 : decode cX8_ranks 17 = .ok (.iadd, 1) := by decide +kernel
theorem dX8_ranks_18 : decode cX8_ranks 18 = .ok (.iaload, 1) := by decide +kernel
theorem dX8_ranks_19 : decode cX8_ranks 19 = .ok (.invokestatic 125, 3) := by decide +kernel
theorem dX8_ranks_22 : decode cX8_ranks 22 = .ok (.iadd, 1) := by decide +kernel
theorem dX8_ranks_23 : decode cX8_ranks 23 = .ok (.istore_n 1, 1) := by decide +kernel
theorem dX8_ranks_24 : decode cX8_ranks 24 = .ok (.iinc 2 1, 3) := by decide +kernel
theorem dX8_ranks_27 : decode cX8_ranks 27 = .ok (.goto (-23), 3) := by decide +kernel
theorem dX8_ranks_30 : decode cX8_ranks 30 = .ok (.iload_n 1, 1) := by decide +kernel
theorem dX8_ranks_31 : decode cX8_ranks 31 = .ok (.ireturn, 1) := by decide +kernel
theorem dX8_count_0 : decode cX8_count 0 = .ok (.iload_n 1, 1) := by decide +kernel
theorem dX8_count_1 : decode cX8_count 1 = .ok (.iconst 2, 1) := by decide +kernel
theorem dX8_count_2 : decode cX8_count 2 = .ok (.iconst 5, 1) := by decide +kernel
theorem dX8_count_3 : decode cX8_count 3 = .ok (.invokestatic 91, 3) := by decide +kernel
theorem dX8_count_6 : decode cX8_count 6 = .ok (.ifCond .eq 15, 3) := by decide +kernel
theorem dX8_count_9 : decode cX8_count 9 = .ok (.aload_n 0, 1) := by decide +kernel
theorem dX8_count_10 : decode cX8_count 10 = .ok (.getfield 7, 3) := by decide +kernel
theorem dX8_count_13 : decode cX8_count 13 = .ok (.bipush 6, 2) := by decide +kernel
theorem dX8_count_15 : decode cX8_count 15 = .ok (.iload_n 1, 1) := by decide +kernel
theorem dX8_count_16 : decode cX8_count 16 = .ok (.iadd, 1) := by decide +kernel
theorem dX8_count_17 : decode cX8_count 17 = .ok (.iconst 2, 1) := by decide +kernel
theorem dX8_count_18 : decode cX8_count 18 = .ok (.isub, 1) := by decide +kernel
theorem dX8_count_19 : decode cX8_count 19 = .ok (.iaload, 1) := by decide +kernel
theorem dX8_count_20 : decode cX8_count 20 = .ok (.ireturn, 1) := by decide +kernel
theorem dX8_count_21 : decode cX8_count 21 = .ok (.iload_n 1, 1) := by decide +kernel
theorem dX8_count_22 : decode cX8_count 22 = .ok (.tableswitch 111 0 8 #[50, 55, 111, 111, 111, 111, 60, 65, 81], 50) := by decide +kernel
theorem dX8_count_72 : decode cX8_count 72 = .ok (.aload_n 0, 1) := by decide +kernel
theorem dX8_count_73 : decode cX8_count 73 = .ok (.invokevirtual 286, 3) := by decide +kernel
theorem dX8_count_76 : decode cX8_count 76 = .ok (.ireturn, 1) := by decide +kernel
theorem dX8_count_77 : decode cX8_count 77 = .ok (.aload_n 0, 1) := by decide +kernel
theorem dX8_count_78 : decode cX8_count 78 = .ok (.invokevirtual 289, 3) := by decide +kernel
theorem dX8_count_81 : decode cX8_count 81 = .ok (.ireturn, 1) := by decide +kernel
theorem dX8_count_82 : decode cX8_count 82 = .ok (.aload_n 0, 1) := by decide +kernel
theorem dX8_count_83 : decode cX8_count 83 = .ok (.getfield 147, 3) := by decide +kernel
theorem dX8_count_86 : decode cX8_count 86 = .ok (.ireturn, 1) := by decide +kernel
theorem dX8_count_87 : decode cX8_count 87 = .ok (.aload_n 0, 1) := by decide +kernel
theorem dX8_count_88 : decode cX8_count 88 = .ok (.getfield 7, 3) := by decide +kernel
theorem dX8_count_91 : decode cX8_count 91 = .ok (.bipush 58, 2) := by decide +kernel
theorem dX8_count_93 : decode cX8_count 93 = .ok (.iaload, 1) := by decide +kernel
theorem dX8_count_94 : decode cX8_count 94 = .ok (.aload_n 0, 1) := by decide +kernel
theorem dX8_count_95 : decode cX8_count 95 = .ok (.getfield 7, 3) := by decide +kernel
theorem dX8_count_98 : decode cX8_count 98 = .ok (.bipush 59, 2) := by decide +kernel
theorem dX8_count_100 : decode cX8_count 100 = .ok (.iaload, 1) := by decide +kernel
theorem dX8_count_101 : decode cX8_count 101 = .ok (.iadd, 1) := by decide +kernel
theorem dX8_count_102 : decode cX8_count 102 = .ok (.ireturn, 1) := by decide +kernel
theorem dX8_count_103 : decode cX8_count 103 = .ok (.aload_n 0, 1) := by decide +kernel
theorem dX8_count_104 : decode cX8_count 104 = .ok (.getfield 16, 3) := by decide +kernel
theorem dX8_count_107 : decode cX8_count 107 = .ok (.iconst 0, 1) := by decide +kernel
theorem dX8_count_108 : decode cX8_count 108 = .ok (.baload, 1) := by decide +kernel
theorem dX8_count_109 : decode cX8_count 109 = .ok (.ifCond .eq 7, 3) := by decide +kernel
theorem dX8_count_112 : decode cX8_count 112 = .ok (.iconst 1, 1) := by decide +kernel
theorem dX8_count_113 : decode cX8_count 113 = .ok (.goto 4, 3) := by decide +kernel
theorem dX8_count_116 : decode cX8_count 116 = .ok (.iconst 0, 1) := by decide +kernel
theorem dX8_count_117 : decode cX8_count 117 = .ok (.aload_n 0, 1) := by decide +kernel
theorem dX8_count_118 : decode cX8_count 118 = .ok (.getfield 16, 3) := by decide +kernel
theorem dX8_count_121 : decode cX8_count 121 = .ok (.iconst 1, 1) := by decide +kernel
theorem dX8_count_122 : decode cX8_count 122 = .ok (.baload, 1) := by decide +kernel
theorem dX8_count_123 : decode cX8_count 123 = .ok (.ifCond .eq 7, 3) := by decide +kernel
theorem dX8_count_126 : decode cX8_count 126 = .ok (.iconst 2, 1) := by decide +kernel
theorem dX8_count_127 : decode cX8_count 127 = .ok (.goto 4, 3) := by decide +kernel
theorem dX8_count_130 : decode cX8_count 130 = .ok (.iconst 0, 1) := by decide +kernel
theorem dX8_count_131 : decode cX8_count 131 = .ok (.iadd, 1) := by decide +kernel
theorem dX8_count_132 : decode cX8_count 132 = .ok (.ireturn, 1) := by decide +kernel
theorem dX8_count_133 : decode cX8_count 133 = .ok (.bipush (-2), 2) := by decide +kernel
theorem dX8_count_135 : decode cX8_count 135 = .ok (.ireturn, 1) := by decide +kernel
