theorem dX12_init_0 : decode cX12_init 0 = .ok (.aload_n 0, 1) := by decide +kernel
theorem dX12_init_1 : decode cX12_init 1 = .ok (.invokespecial 3, 3) := by decide +kernel
theorem dX12_init_4 : decode cX12_init 4 = .ok (.aload_n 0, 1) := by decide +kernel
theorem dX12_init_5 : decode cX12_init 5 = .ok (.bipush 24, 2) := by decide +kernel
theorem dX12_init_7 : decode cX12_init 7 = .ok (.newarray .long, 2) := by decide +kernel
theorem dX12_init_9 : decode cX12_init 9 = .ok (.putfield 9, 3) := by decide +kernel
theorem dX12_init_12 : decode cX12_init 12 = .ok (.aload_n 0, 1) := by decide +kernel
theorem dX12_init_13 : decode cX12_init 13 = .ok (.iconst 1, 1) := by decide +kernel
theorem dX12_init_14 : decode cX12_init 14 = .ok (.putfield 13, 3) := by decide +kernel
theorem dX12_init_17 : decode cX12_init 17 = .ok (.aload_n 0, 1) := by decide +kernel
theorem dX12_init_18 : decode cX12_init 18 = .ok (.bipush 12, 2) := by decide +kernel
theorem dX12_init_20 : decode cX12_init 20 = .ok (.newarray .int, 2) := by decide +kernel
theorem dX12_init_22 : decode cX12_init 22 = .ok (.putfield 17, 3) := by decide +kernel
theorem dX12_init_25 : decode cX12_init 25 = .ok (.aload_n 0, 1) := by decide +kernel
theorem dX12_init_26 : decode cX12_init 26 = .ok (.bipush 12, 2) := by decide +kernel
theorem dX12_init_28 : decode cX12_init 28 = .ok (.newarray .int, 2) := by decide +kernel
theorem dX12_init_30 : decode cX12_init 30 = .ok (.putfield 21, 3) := by decide +kernel
theorem dX12_init_33 : decode cX12_init 33 = .ok (.aload_n 0, 1) := by decide +kernel
theorem dX12_init_34 : decode cX12_init 34 = .ok (.bipush 8, 2) := by decide +kernel
theorem dX12_init_36 : decode cX12_init 36 = .ok (.newarray .int, 2) := by decide +kernel
theorem dX12_init_38 : decode cX12_init 38 = .ok (.putfield 24, 3) := by decide +kernel
theorem dX12_init_41 : decode cX12_init 41 = .ok (.aload_n 0, 1) := by decide +kernel
theorem dX12_init_42 : decode cX12_init 42 = .ok (.bipush 8, 2) := by decide +kernel
theorem dX12_init_44 : decode cX12_init 44 = .ok (.newarray .int, 2) := by decide +kernel
theorem dX12_init_46 : decode cX12_init 46 = .ok (.putfield 27, 3) := by decide +kernel
theorem dX12_init_49 : decode cX12_init 49 = .ok (.aload_n 0, 1) := by decide +kernel
theorem dX12_init_50 : decode cX12_init 50 = .ok (.bipush 8, 2) := by decide +kernel
theorem dX12_init_52 : decode cX12_init 52 = .ok (.newarray .int, 2) := by decide +kernel
theorem dX12_init_54 : decode cX12_init 54 = .ok (.putfield 30, 3) := by decide +kernel
theorem dX12_init_57 : decode cX12_init 57 = .ok (.aload_n 0, 1) := by decide +kernel
theorem dX12_init_58 : decode cX12_init 58 = .ok (.iconst 2, 1) := by decide +kernel
theorem dX12_init_59 : decode cX12_init 59 = .ok (.newarray .int, 2) := by decide +kernel
theorem dX12_init_61 : decode cX12_init 61 = .ok (.dup, 1) := by decide +kernel
theorem dX12_init_62 : decode cX12_init 62 = .ok (.iconst 0, 1) := by decide +kernel
theorem dX12_init_63 : decode cX12_init 63 = .ok (.iconst 0, 1) := by decide +kernel
theorem dX12_init_64 : decode cX12_init 64 = .ok (.iastore, 1) := by decide +kernel
theorem dX12_init_65 : decode cX12_init 65 = .ok (.dup, 1) := by decide +kernel
theorem dX12_init_66 : decode cX12_init 66 = .ok (.iconst 1, 1) := by decide +kernel
theorem dX12_init_67 : decode cX12_init 67 = .ok (.iconst 2, 1) := by decide +kernel
theorem dX12_init_68 : decode cX12_init 68 = .ok (.iastore, 1) := by decide +kernel
theorem dX12_init_69 : decode cX12_init 69 = .ok (.putfield 33, 3) := by decide +kernel
theorem dX12_init_72 : decode cX12_init 72 = .ok (.aload_n 0, 1) := by decide +kernel
theorem dX12_init_73 : decode cX12_init 73 = .ok (.bipush 43, 2) := by decide +kernel
theorem dX12_init_75 : decode cX12_init 75 = .ok (.newarray .int, 2) := by decide +kernel
theorem dX12_init_77 : decode cX12_init 77 = .ok (.putfield 36, 3) := by decide +kernel
theorem dX12_init_80 : decode cX12_init 80 = .ok (.aload_n 0, 1) := by decide +kernel
theorem dX12_init_81 : decode cX12_init 81 = .ok (.bipush 43, 2) := by decide +kernel
theorem dX12_init_83 : decode cX12_init 83 = .ok (.newarray .int, 2) := by decide +kernel
theorem dX12_init_85 : decode cX12_init 85 = .ok (.putfield 39, 3) := by decide +kernel
theorem dX12_init_88 : decode cX12_init 88 = .ok (.aload_n 0, 1) := by decide +kernel
theorem dX12_init_89 : decode cX12_init 89 = .ok (.bipush 80, 2) := by decide +kernel
theorem dX12_init_91 : decode cX12_init 91 = .ok (.newarray .int, 2) := by decide +kernel
theorem dX12_init_93 : decode cX12_init 93 = .ok (.putfield 42, 3) := by decide +kernel
theorem dX12_init_96 : decode cX12_init 96 = .ok (.aload_n 0, 1) := by decide +kernel
theorem dX12_init_97 : decode cX12_init 97 = .ok (.bipush 36, 2) := by decide +kernel
theorem dX12_init_99 : decode cX12_init 99 = .ok (.newarray .int, 2) := by decide +kernel
theorem dX12_init_101 : decode cX12_init 101 = .ok (.putfield 45, 3) := by decide +kernel
theorem dX12_init_104 : decode cX12_init 104 = .ok (.aload_n 0, 1) := by decide +kernel
theorem dX12_init_105 : decode cX12_init 105 = .ok (.bipush 80, 2) := by decide +kernel
theorem dX12_init_107 : decode cX12_init 107 = .ok (.newarray .int, 2) := by decide +kernel
theorem dX12_init_109 : decode cX12_init 109 = .ok (.putfield 48, 3) := by decide +kernel
theorem dX12_init_112 : decode cX12_init 112 = .ok (.aload_n 0, 1) := by decide +kernel
theorem dX12_init_113 : decode cX12_init 113 = .ok (.bipush 80, 2) := by decide +kernel
theorem dX12_init_115 : decode cX12_init 115 = .ok (.newarray .int, 2) := by decide +kernel
theorem dX12_init_117 : decode cX12_init 117 = .ok (.putfield 51, 3) := by decide +kernel
theorem dX12_init_120 : decode cX12_init 120 = .ok (.aload_n 0, 1) := by decide +kernel
theorem dX12_init_121 : decode cX12_init 121 = .ok (.bipush 80, 2) := by decide +kernel
theorem dX12_init_123 : decode cX12_init 123 = .ok (.newarray .int, 2) := by decide +kernel
theorem dX12_init_125 : decode cX12_init 125 = .ok (.putfield 54, 3) := by decide +kernel
theorem dX12_init_128 : decode cX12_init 128 = .ok (.aload_n 0, 1) := by decide +kernel
theorem dX12_init_129 : decode cX12_init 129 = .ok (.iconst 4, 1) := by decide +kernel
theorem dX12_init_130 : decode cX12_init 130 = .ok (.newarray .int, 2) := by decide +kernel
theorem dX12_init_132 : decode cX12_init 132 = .ok (.putfield 57, 3) := by decide +kernel
theorem dX12_init_135 : decode cX12_init 135 = .ok (.aload_n 0, 1) := by decide +kernel
theorem dX12_init_136 : decode cX12_init 136 = .ok (.sipush 688, 3) := by decide +kernel
theorem dX12_init_139 : decode cX12_init 139 = .ok (.newarray .int, 2) := by decide +kernel
theorem dX12_init_141 : decode cX12_init 141 = .ok (.putfield 60, 3) := by decide +kernel
theorem dX12_init_144 : decode cX12_init 144 = .ok (.aload_n 0, 1) := by decide +kernel
theorem dX12_init_145 : decode cX12_init 145 = .ok (.bipush 12, 2) := by decide +kernel
theorem dX12_init_147 : decode cX12_init 147 = .ok (.newarray .int, 2) := by decide +kernel
theorem dX12_init_149 : decode cX12_init 149 = .ok (.putfield 63, 3) := by decide +kernel
theorem dX12_init_152 : decode cX12_init 152 = .ok (.aload_n 0, 1) := by decide +kernel
theorem dX12_init_153 : decode cX12_init 153 = .ok (.bipush 60, 2) := by decide +kernel
theorem dX12_init_155 : decode cX12_init 155 = .ok (.newarray .int, 2) := by decide +kernel
theorem dX12_init_157 : decode cX12_init 157 = .ok (.putfield 66, 3) := by decide +kernel
theorem dX12_init_160 : decode cX12_init 160 = .ok (.aload_n 0, 1) := by decide +kernel
theorem dX12_init_161 : decode cX12_init 161 = .ok (.bipush 60, 2) := by decide +kernel
theorem dX12_init_163 : decode cX12_init 163 = .ok (.newarray .int, 2) := by decide +kernel
theorem dX12_init_165 : decode cX12_init 165 = .ok (.putfield 69, 3) := by decide +kernel
theorem dX12_init_168 : decode cX12_init 168 = .ok (.aload_n 0, 1) := by decide +kernel
theorem dX12_init_169 : decode cX12_init 169 = .ok (.bipush 60, 2) := by decide +kernel
theorem dX12_init_171 : decode cX12_init 171 = .ok (.newarray .int, 2) := by decide +kernel
theorem dX12_init_173 : decode cX12_init 173 = .ok (.putfield 72, 3) := by decide +kernel
theorem dX12_init_176 : decode cX12_init 176 = .ok (.aload_n 0, 1) := by decide +kernel
theorem dX12_init_177 : decode cX12_init 177 = .ok (.bipush 12, 2) := by decide +kernel
theorem dX12_init_179 : decode cX12_init 179 = .ok (.newarray .int, 2) := by decide +kernel
theorem dX12_init_181 : decode cX12_init 181 = .ok (.putfield 75, 3) := by decide +kernel
theorem dX12_init_184 : decode cX12_init 184 = .ok (.aload_n 0, 1) := by decide +kernel
theorem dX12_init_185 : decode cX12_init 185 = .ok (.bipush 8, 2) := by decide +kernel
theorem dX12_init_187 : decode cX12_init 187 = .ok (.newarray .int, 2) := by decide +kernel
theorem dX12_init_189 : decode cX12_init 189 = .ok (.putfield 78, 3) := by decide +kernel
theorem dX12_init_192 : decode cX12_init 192 = .ok (.aload_n 0, 1) := by decide +kernel
theorem dX12_init_193 : decode cX12_init 193 = .ok (.bipush 8, 2) := by decide +kernel
theorem dX12_init_195 : decode cX12_init 195 = .ok (.newarray .int, 2) := by decide +kernel
theorem dX12_init_197 : decode cX12_init 197 = .ok (.putfield 81, 3) := by decide +kernel
theorem dX12_init_200 : decode cX12_init 200 = .ok (.aload_n 0, 1) := by decide +kernel
theorem dX12_init_201 : decode cX12_init 201 = .ok (.bipush 80, 2) := by decide +kernel
theorem dX12_init_203 : decode cX12_init 203 = .ok (.newarray .int, 2) := by decide +kernel
theorem dX12_init_205 : decode cX12_init 205 = .ok (.putfield 84, 3) := by decide +kernel
theorem dX12_init_208 : decode cX12_init 208 = .ok (.aload_n 0, 1) := by decide +kernel
theorem dX12_init_209 : decode cX12_init 209 = .ok (.bipush 12, 2) := by decide +kernel
theorem dX12_init_211 : decode cX12_init 211 = .ok (.newarray .int, 2) := by decide +kernel
theorem dX12_init_213 : decode cX12_init 213 = .ok (.putfield 87, 3) := by decide +kernel
theorem dX12_init_216 : decode cX12_init 216 = .ok (.aload_n 0, 1) := by decide +kernel
theorem dX12_init_217 : decode cX12_init 217 = .ok (.bipush 12, 2) := by decide +kernel
theorem dX12_init_219 : decode cX12_init 219 = .ok (.newarray .int, 2) := by decide +kernel
theorem dX12_init_221 : decode cX12_init 221 = .ok (.putfield 90, 3) := by decide +kernel
theorem dX12_init_224 : decode cX12_init 224 = .ok (.aload_n 0, 1) := by decide +kernel
theorem dX12_init_225 : decode cX12_init 225 = .ok (.bipush 8, 2) := by decide +kernel
theorem dX12_init_227 : decode cX12_init 227 = .ok (.newarray .int, 2) := by decide +kernel
theorem dX12_init_229 : decode cX12_init 229 = .ok (.putfield 93, 3) := by decide +kernel
theorem dX12_init_232 : decode cX12_init 232 = .ok (.aload_n 0, 1) := by decide +kernel
theorem dX12_init_233 : decode cX12_init 233 = .ok (.bipush 8, 2) := by decide +kernel
theorem dX12_init_235 : decode cX12_init 235 = .ok (.newarray .int, 2) := by decide +kernel
theorem dX12_init_237 : decode cX12_init 237 = .ok (.putfield 96, 3) := by decide +kernel
theorem dX12_init_240 : decode cX12_init 240 = .ok (.aload_n 0, 1) := by decide +kernel
theorem dX12_init_241 : decode cX12_init 241 = .ok (.bipush 8, 2) := by decide +kernel
theorem dX12_init_243 : decode cX12_init 243 = .ok (.newarray .int, 2) := by decide +kernel
theorem dX12_init_245 : decode cX12_init 245 = .ok (.putfield 99, 3) := by decide +kernel
theorem dX12_init_248 : decode cX12_init 248 = .ok (.aload_n 0, 1) := by decide +kernel
theorem dX12_init_249 : decode cX12_init 249 = .ok (.iconst 3, 1) := by decide +kernel
theorem dX12_init_250 : decode cX12_init 250 = .ok (.newarray .boolean, 2) := by decide +kernel
theorem dX12_init_252 : decode cX12_init 252 = .ok (.putfield 102, 3) := by decide +kernel
theorem dX12_init_255 : decode cX12_init 255 = .ok (.aload_n 0, 1) := by decide +kernel
theorem dX12_init_256 : decode cX12_init 256 = .ok (.iconst 3, 1) := by decide +kernel
theorem dX12_init_257 : decode cX12_init 257 = .ok (.newarray .int, 2) := by decide +kernel
theorem dX12_init_259 : decode cX12_init 259 = .ok (.putfield 106, 3) := by decide +kernel
theorem dX12_init_262 : decode cX12_init 262 = .ok (.aload_n 0, 1) := by decide +kernel
theorem dX12_init_263 : decode cX12_init 263 = .ok (.sipush 129, 3) := by decide +kernel
theorem dX12_init_266 : decode cX12_init 266 = .ok (.newarray .int, 2) := by decide +kernel
theorem dX12_init_268 : decode cX12_init 268 = .ok (.putfield 109, 3) := by decide +kernel
theorem dX12_init_271 : decode cX12_init 271 = .ok (.return_, 1) := by decide +kernel
theorem dX12_thrown_0 : decode cX12_thrown 0 = .ok (.aload_n 0, 1) := by decide +kernel
theorem dX12_thrown_1 : decode cX12_thrown 1 = .ok (.getfield 112, 3) := by decide +kernel
theorem dX12_thrown_4 : decode cX12_thrown 4 = .ok (.ireturn, 1) := by decide +kernel
theorem dX12_refuse_0 : decode cX12_refuse 0 = .ok (.aload_n 0, 1) := by decide +kernel
theorem dX12_refuse_1 : decode cX12_refuse 1 = .ok (.iconst 1, 1) := by decide +kernel
theorem dX12_refuse_2 : decode cX12_refuse 2 = .ok (.putfield 112, 3) := by decide +kernel
theorem dX12_refuse_5 : decode cX12_refuse 5 = .ok (.iconst 0, 1) := by decide +kernel
theorem dX12_refuse_6 : decode cX12_refuse 6 = .ok (.ireturn, 1) := by decide +kernel
theorem dX12_in_0 : decode cX12_in 0 = .ok (.lload_n 0, 1) := by decide +kernel
theorem dX12_in_1 : decode cX12_in 1 = .ok (.lload_n 2, 1) := by decide +kernel
theorem dX12_in_2 : decode cX12_in 2 = .ok (.lcmp, 1) := by decide +kernel
theorem dX12_in_3 : decode cX12_in 3 = .ok (.ifCond .lt 14, 3) := by decide +kernel
theorem dX12_in_6 : decode cX12_in 6 = .ok (.lload_n 0, 1) := by decide +kernel
theorem dX12_in_7 : decode cX12_in 7 = .ok (.lload 4, 2) := by decide +kernel
theorem dX12_in_9 : decode cX12_in 9 = .ok (.lcmp, 1) := by decide +kernel
theorem dX12_in_10 : decode cX12_in 10 = .ok (.ifCond .gt 7, 3) := by decide +kernel
theorem dX12_in_13 : decode cX12_in 13 = .ok (.iconst 1, 1) := by decide +kernel
theorem dX12_in_14 : decode cX12_in 14 = .ok (.goto 4, 3) := by decide +kernel
theorem dX12_in_17 : decode cX12_in 17 = .ok (.iconst 0, 1) := by decide +kernel
theorem dX12_in_18 : decode cX12_in 18 = .ok (.ireturn, 1) := by decide +kernel
theorem dX12_has_0 : decode cX12_has 0 = .ok (.iload_n 0, 1) := by decide +kernel
theorem dX12_has_1 : decode cX12_has 1 = .ok (.iload_n 1, 1) := by decide +kernel
theorem dX12_has_2 : decode cX12_has 2 = .ok (.ishr, 1) := by decide +kernel
theorem dX12_has_3 : decode cX12_has 3 = .ok (.iconst 1, 1) := by decide +kernel
theorem dX12_has_4 : decode cX12_has 4 = .ok (.iand, 1) := by decide +kernel
theorem dX12_has_5 : decode cX12_has 5 = .ok (.iconst 1, 1) := by decide +kernel
theorem dX12_has_6 : decode cX12_has 6 = .ok (.if_icmp .ne 7, 3) := by decide +kernel
theorem dX12_has_9 : decode cX12_has 9 = .ok (.iconst 1, 1) := by decide +kernel
theorem dX12_has_10 : decode cX12_has 10 = .ok (.goto 4, 3) := by decide +kernel
theorem dX12_has_13 : decode cX12_has 13 = .ok (.iconst 0, 1) := by decide +kernel
theorem dX12_has_14 : decode cX12_has 14 = .ok (.ireturn, 1) := by decide +kernel
theorem dX12_flag_0 : decode cX12_flag 0 = .ok (.iload_n 0, 1) := by decide +kernel
theorem dX12_flag_1 : decode cX12_flag 1 = .ok (.ifCond .eq 7, 3) := by decide +kernel
theorem dX12_flag_4 : decode cX12_flag 4 = .ok (.iconst 1, 1) := by decide +kernel
theorem dX12_flag_5 : decode cX12_flag 5 = .ok (.goto 4, 3) := by decide +kernel
theorem dX12_flag_8 : decode cX12_flag 8 = .ok (.iconst 0, 1) := by decide +kernel
theorem dX12_flag_9 : decode cX12_flag 9 = .ok (.ireturn, 1) := by decide +kernel
theorem dX12_common_0 : decode cX12_common 0 = .ok (.lload_n 2, 1) := by decide +kernel
theorem dX12_common_1 : decode cX12_common 1 = .ok (.lconst 0, 1) := by decide +kernel
theorem dX12_common_2 : decode cX12_common 2 = .ok (.lcmp, 1) := by decide +kernel
theorem dX12_common_3 : decode cX12_common 3 = .ok (.ifCond .ne 7, 3) := by decide +kernel
theorem dX12_common_6 : decode cX12_common 6 = .ok (.lload_n 0, 1) := by decide +kernel
theorem dX12_common_7 : decode cX12_common 7 = .ok (.goto 10, 3) := by decide +kernel
theorem dX12_common_10 : decode cX12_common 10 = .ok (.lload_n 2, 1) := by decide +kernel
theorem dX12_common_11 : decode cX12_common 11 = .ok (.lload_n 0, 1) := by decide +kernel
theorem dX12_common_12 : decode cX12_common 12 = .ok (.lload_n 2, 1) := by decide +kernel
theorem dX12_common_13 : decode cX12_common 13 = .ok (.lrem, 1) := by decide +kernel
theorem dX12_common_14 : decode cX12_common 14 = .ok (.invokestatic 115, 3) := by decide +kernel
theorem dX12_common_17 : decode cX12_common 17 = .ok (.lreturn, 1) := by decide +kernel
theorem dX12_enters_0 : decode cX12_enters 0 = .ok (.aload_n 0, 1) := by decide +kernel
theorem dX12_enters_1 : decode cX12_enters 1 = .ok (.getfield 9, 3) := by decide +kernel
theorem dX12_enters_4 : decode cX12_enters 4 = .ok (.aload_n 0, 1) := by decide +kernel
theorem dX12_enters_5 : decode cX12_enters 5 = .ok (.getfield 119, 3) := by decide +kernel
theorem dX12_enters_8 : decode cX12_enters 8 = .ok (.lload_n 1, 1) := by decide +kernel
theorem dX12_enters_9 : decode cX12_enters 9 = .ok (.lastore, 1) := by decide +kernel
theorem dX12_enters_10 : decode cX12_enters 10 = .ok (.aload_n 0, 1) := by decide +kernel
theorem dX12_enters_11 : decode cX12_enters 11 = .ok (.dup, 1) := by decide +kernel
theorem dX12_enters_12 : decode cX12_enters 12 = .ok (.getfield 119, 3) := by decide +kernel
theorem dX12_enters_15 : decode cX12_enters 15 = .ok (.iconst 1, 1) := by decide +kernel
theorem dX12_enters_16 : decode cX12_enters 16 = .ok (.iadd, 1) := by decide +kernel
theorem dX12_enters_17 : decode cX12_enters 17 = .ok (.putfield 119, 3) := by decide +kernel
theorem dX12_enters_20 : decode cX12_enters 20 = .ok (.return_, 1) := by decide +kernel
theorem dX12_isCell_0 : decode cX12_isCell 0 = .ok (.iload_n 1, 1) := by decide +kernel
theorem dX12_isCell_1 : decode cX12_isCell 1 = .ok (.i2l, 1) := by decide +kernel
theorem dX12_isCell_2 : decode cX12_isCell 2 = .ok (.lconst 0, 1) := by decide +kernel
theorem dX12_isCell_3 : decode cX12_isCell 3 = .ok (.aload_n 0, 1) := by decide +kernel
theorem dX12_isCell_4 : decode cX12_isCell 4 = .ok (.getfield 13, 3) := by decide +kernel
theorem dX12_isCell_7 : decode cX12_isCell 7 = .ok (.iconst 1, 1) := by decide +kernel
theorem dX12_isCell_8 : decode cX12_isCell 8 = .ok (.isub, 1) := by decide +kernel
theorem dX12_isCell_9 : decode cX12_isCell 9 = .ok (.i2l, 1) := by decide +kernel
theorem dX12_isCell_10 : decode cX12_isCell 10 = .ok (.invokestatic 122, 3) := by decide +kernel
theorem dX12_isCell_13 : decode cX12_isCell 13 = .ok (.ireturn, 1) := by decide +kernel
theorem dX12_isChild_0 : decode cX12_isChild 0 = .ok (.iload_n 1, 1) := by decide +kernel
theorem dX12_isChild_1 : decode cX12_isChild 1 = .ok (.i2l, 1) := by decide +kernel
theorem dX12_isChild_2 : decode cX12_isChild 2 = .ok (.lconst 0, 1) := by decide +kernel
theorem dX12_isChild_3 : decode cX12_isChild 3 = .ok (.aload_n 0, 1) := by decide +kernel
theorem dX12_isChild_4 : decode cX12_isChild 4 = .ok (.getfield 126, 3) := by decide +kernel
theorem dX12_isChild_7 : decode cX12_isChild 7 = .ok (.iconst 1, 1) := by decide +kernel
theorem dX12_isChild_8 : decode cX12_isChild 8 = .ok (.isub, 1) := by decide +kernel
theorem dX12_isChild_9 : decode cX12_isChild 9 = .ok (.i2l, 1) := by decide +kernel
theorem dX12_isChild_10 : decode cX12_isChild 10 = .ok (.invokestatic 122, 3) := by decide +kernel
theorem dX12_isChild_13 : decode cX12_isChild 13 = .ok (.ireturn, 1) := by decide +kernel
theorem dX12_atOf_0 : decode cX12_atOf 0 = .ok (.aload_n 0, 1) := by decide +kernel
theorem dX12_atOf_1 : decode cX12_atOf 1 = .ok (.bipush 25, 2) := by decide +kernel
theorem dX12_atOf_3 : decode cX12_atOf 3 = .ok (.iconst 2, 1) := by decide +kernel
theorem dX12_atOf_4 : decode cX12_atOf 4 = .ok (.iload_n 1, 1) := by decide +kernel
theorem dX12_atOf_5 : decode cX12_atOf 5 = .ok (.imul, 1) := by decide +kernel
theorem dX12_atOf_6 : decode cX12_atOf 6 = .ok (.iadd, 1) := by decide +kernel
theorem dX12_atOf_7 : decode cX12_atOf 7 = .ok (.iconst 0, 1) := by decide +kernel
theorem dX12_atOf_8 : decode cX12_atOf 8 = .ok (.iadd, 1) := by decide +kernel
theorem dX12_atOf_9 : decode cX12_atOf 9 = .ok (.iaload, 1) := by decide +kernel
theorem dX12_atOf_10 : decode cX12_atOf 10 = .ok (.ireturn, 1) := by decide +kernel
theorem dX12_moodOf_0 : decode cX12_moodOf 0 = .ok (.aload_n 0, 1) := by decide +kernel
theorem dX12_moodOf_1 : decode cX12_moodOf 1 = .ok (.bipush 25, 2) := by decide +kernel
theorem dX12_moodOf_3 : decode cX12_moodOf 3 = .ok (.iconst 2, 1) := by decide +kernel
theorem dX12_moodOf_4 : decode cX12_moodOf 4 = .ok (.iload_n 1, 1) := by decide +kernel
theorem dX12_moodOf_5 : decode cX12_moodOf 5 = .ok (.imul, 1) := by decide +kernel
theorem dX12_moodOf_6 : decode cX12_moodOf 6 = .ok (.iadd, 1) := by decide +kernel
theorem dX12_moodOf_7 : decode cX12_moodOf 7 = .ok (.iconst 1, 1) := by decide +kernel
theorem dX12_moodOf_8 : decode cX12_moodOf 8 = .ok (.iadd, 1) := by decide +kernel
theorem dX12_moodOf_9 : decode cX12_moodOf 9 = .ok (.iaload, 1) := by decide +kernel
theorem dX12_moodOf_10 : decode cX12_moodOf 10 = .ok (.ireturn, 1) := by decide +kernel
theorem dX12_topOf_0 : decode cX12_topOf 0 = .ok (.bipush 10, 2) := by decide +kernel
theorem dX12_topOf_2 : decode cX12_topOf 2 = .ok (.aload_n 0, 1) := by decide +kernel
theorem dX12_topOf_3 : decode cX12_topOf 3 = .ok (.getfield 17, 3) := by decide +kernel
theorem dX12_topOf_6 : decode cX12_topOf 6 = .ok (.iload_n 2, 1) := by decide +kernel
theorem dX12_topOf_7 : decode cX12_topOf 7 = .ok (.iaload, 1) := by decide +kernel
theorem dX12_topOf_8 : decode cX12_topOf 8 = .ok (.imul, 1) := by decide +kernel
theorem dX12_topOf_9 : decode cX12_topOf 9 = .ok (.aload_n 1, 1) := by decide +kernel
theorem dX12_topOf_10 : decode cX12_topOf 10 = .ok (.iload_n 2, 1) := by decide +kernel
theorem dX12_topOf_11 : decode cX12_topOf 11 = .ok (.iaload, 1) := by decide +kernel
theorem dX12_topOf_12 : decode cX12_topOf 12 = .ok (.iadd, 1) := by decide +kernel
theorem dX12_topOf_13 : decode cX12_topOf 13 = .ok (.ireturn, 1) := by decide +kernel
theorem dX12_childrenAt_0 : decode cX12_childrenAt 0 = .ok (.iconst 0, 1) := by decide +kernel
theorem dX12_childrenAt_1 : decode cX12_childrenAt 1 = .ok (.istore_n 3, 1) := by decide +kernel
theorem dX12_childrenAt_2 : decode cX12_childrenAt 2 = .ok (.iconst 0, 1) := by decide +kernel
theorem dX12_childrenAt_3 : decode cX12_childrenAt 3 = .ok (.istore 4, 2) := by decide +kernel
theorem dX12_childrenAt_5 : decode cX12_childrenAt 5 = .ok (.iload 4, 2) := by decide +kernel
theorem dX12_childrenAt_7 : decode cX12_childrenAt 7 = .ok (.aload_n 0, 1) := by decide +kernel
theorem dX12_childrenAt_8 : decode cX12_childrenAt 8 = .ok (.getfield 126, 3) := by decide +kernel
theorem dX12_childrenAt_11 : decode cX12_childrenAt 11 = .ok (.if_icmp .ge 30, 3) := by decide +kernel
theorem dX12_childrenAt_14 : decode cX12_childrenAt 14 = .ok (.iload_n 3, 1) := by decide +kernel
theorem dX12_childrenAt_15 : decode cX12_childrenAt 15 = .ok (.aload_n 1, 1) := by decide +kernel
theorem dX12_childrenAt_16 : decode cX12_childrenAt 16 = .ok (.iload 4, 2) := by decide +kernel
theorem dX12_childrenAt_18 : decode cX12_childrenAt 18 = .ok (.invokestatic 129, 3) := by decide +kernel
theorem dX12_childrenAt_21 : decode cX12_childrenAt 21 = .ok (.iload_n 2, 1) := by decide +kernel
theorem dX12_childrenAt_22 : decode cX12_childrenAt 22 = .ok (.if_icmp .ne 10, 3) := by decide +kernel
theorem dX12_childrenAt_25 : decode cX12_childrenAt 25 = .ok (.iconst 1, 1) := by decide +kernel
theorem dX12_childrenAt_26 : decode cX12_childrenAt 26 = .ok (.iload 4, 2) := by decide +kernel
theorem dX12_childrenAt_28 : decode cX12_childrenAt 28 = .ok (.ishl, 1) := by decide +kernel
theorem dX12_childrenAt_29 : decode cX12_childrenAt 29 = .ok (.goto 4, 3) := by decide +kernel
theorem dX12_childrenAt_32 : decode cX12_childrenAt 32 = .ok (.iconst 0, 1) := by decide +kernel
theorem dX12_childrenAt_33 : decode cX12_childrenAt 33 = .ok (.ior, 1) := by decide +kernel
theorem dX12_childrenAt_34 : decode cX12_childrenAt 34 = .ok (.istore_n 3, 1) := by decide +kernel
theorem dX12_childrenAt_35 : decode cX12_childrenAt 35 = .ok (.iinc 4 1, 3) := by decide +kernel
theorem dX12_childrenAt_38 : decode cX12_childrenAt 38 = .ok (.goto (-33), 3) := by decide +kernel
theorem dX12_childrenAt_41 : decode cX12_childrenAt 41 = .ok (.iload_n 3, 1) := by decide +kernel
theorem dX12_childrenAt_42 : decode cX12_childrenAt 42 = .ok (.ireturn, 1) := by decide +kernel
theorem dX12_wet_0 : decode cX12_wet 0 = .ok (.iconst 0, 1) := by decide +kernel
theorem dX12_wet_1 : decode cX12_wet 1 = .ok (.istore_n 2, 1) := by decide +kernel
theorem dX12_wet_2 : decode cX12_wet 2 = .ok (.iconst 0, 1) := by decide +kernel
theorem dX12_wet_3 : decode cX12_wet 3 = .ok (.istore_n 3, 1) := by decide +kernel
theorem dX12_wet_4 : decode cX12_wet 4 = .ok (.iload_n 3, 1) := by decide +kernel
theorem dX12_wet_5 : decode cX12_wet 5 = .ok (.aload_n 0, 1) := by decide +kernel
theorem dX12_wet_6 : decode cX12_wet 6 = .ok (.getfield 13, 3) := by decide +kernel
theorem dX12_wet_9 : decode cX12_wet 9 = .ok (.if_icmp .ge 28, 3) := by decide +kernel
theorem dX12_wet_12 : decode cX12_wet 12 = .ok (.iload_n 2, 1) := by decide +kernel
theorem dX12_wet_13 : decode cX12_wet 13 = .ok (.aload_n 1, 1) := by decide +kernel
theorem dX12_wet_14 : decode cX12_wet 14 = .ok (.bipush 13, 2) := by decide +kernel
theorem dX12_wet_16 : decode cX12_wet 16 = .ok (.iload_n 3, 1) := by decide +kernel
theorem dX12_wet_17 : decode cX12_wet 17 = .ok (.iadd, 1) := by decide +kernel
theorem dX12_wet_18 : decode cX12_wet 18 = .ok (.iaload, 1) := by decide +kernel
theorem dX12_wet_19 : decode cX12_wet 19 = .ok (.ifCond .le 9, 3) := by decide +kernel
theorem dX12_wet_22 : decode cX12_wet 22 = .ok (.iconst 1, 1) := by decide +kernel
theorem dX12_wet_23 : decode cX12_wet 23 = .ok (.iload_n 3, 1) := by decide +kernel
theorem dX12_wet_24 : decode cX12_wet 24 = .ok (.ishl, 1) := by decide +kernel
theorem dX12_wet_25 : decode cX12_wet 25 = .ok (.goto 4, 3) := by decide +kernel
theorem dX12_wet_28 : decode cX12_wet 28 = .ok (.iconst 0, 1) := by decide +kernel
theorem dX12_wet_29 : decode cX12_wet 29 = .ok (.ior, 1) := by decide +kernel
theorem dX12_wet_30 : decode cX12_wet 30 = .ok (.istore_n 2, 1) := by decide +kernel
theorem dX12_wet_31 : decode cX12_wet 31 = .ok (.iinc 3 1, 3) := by decide +kernel
theorem dX12_wet_34 : decode cX12_wet 34 = .ok (.goto (-30), 3) := by decide +kernel
theorem dX12_wet_37 : decode cX12_wet 37 = .ok (.iload_n 2, 1) := by decide +kernel
theorem dX12_wet_38 : decode cX12_wet 38 = .ok (.ireturn, 1) := by decide +kernel
theorem dX12_deepAll_0 : decode cX12_deepAll 0 = .ok (.iconst 0, 1) := by decide +kernel
theorem dX12_deepAll_1 : decode cX12_deepAll 1 = .ok (.istore_n 2, 1) := by decide +kernel
theorem dX12_deepAll_2 : decode cX12_deepAll 2 = .ok (.iconst 0, 1) := by decide +kernel
theorem dX12_deepAll_3 : decode cX12_deepAll 3 = .ok (.istore_n 3, 1) := by decide +kernel
theorem dX12_deepAll_4 : decode cX12_deepAll 4 = .ok (.iload_n 3, 1) := by decide +kernel
theorem dX12_deepAll_5 : decode cX12_deepAll 5 = .ok (.aload_n 0, 1) := by decide +kernel
theorem dX12_deepAll_6 : decode cX12_deepAll 6 = .ok (.getfield 13, 3) := by decide +kernel
theorem dX12_deepAll_9 : decode cX12_deepAll 9 = .ok (.if_icmp .ge 18, 3) := by decide +kernel
theorem dX12_deepAll_12 : decode cX12_deepAll 12 = .ok (.iload_n 2, 1) := by decide +kernel
theorem dX12_deepAll_13 : decode cX12_deepAll 13 = .ok (.aload_n 1, 1) := by decide +kernel
theorem dX12_deepAll_14 : decode cX12_deepAll 14 = .ok (.bipush 13, 2) := by decide +kernel
theorem dX12_deepAll_16 : decode cX12_deepAll 16 = .ok (.iload_n 3, 1) := by decide +kernel
theorem dX12_deepAll_17 : decode cX12_deepAll 17 = .ok (.iadd, 1) := by decide +kernel
theorem dX12_deepAll_18 : decode cX12_deepAll 18 = .ok (.iaload, 1) := by decide +kernel
theorem dX12_deepAll_19 : decode cX12_deepAll 19 = .ok (.iadd, 1) := by decide +kernel
theorem dX12_deepAll_20 : decode cX12_deepAll 20 = .ok (.istore_n 2, 1) := by decide +kernel
theorem dX12_deepAll_21 : decode cX12_deepAll 21 = .ok (.iinc 3 1, 3) := by decide +kernel
theorem dX12_deepAll_24 : decode cX12_deepAll 24 = .ok (.goto (-20), 3) := by decide +kernel
theorem dX12_deepAll_27 : decode cX12_deepAll 27 = .ok (.iload_n 2, 1) := by decide +kernel
theorem dX12_deepAll_28 : decode cX12_deepAll 28 = .ok (.ireturn, 1) := by decide +kernel
theorem dX12_wallAll_0 : decode cX12_wallAll 0 = .ok (.iconst 0, 1) := by decide +kernel
theorem dX12_wallAll_1 : decode cX12_wallAll 1 = .ok (.istore_n 2, 1) := by decide +kernel
theorem dX12_wallAll_2 : decode cX12_wallAll 2 = .ok (.iconst 0, 1) := by decide +kernel
theorem dX12_wallAll_3 : decode cX12_wallAll 3 = .ok (.istore_n 3, 1) := by decide +kernel
theorem dX12_wallAll_4 : decode cX12_wallAll 4 = .ok (.iload_n 3, 1) := by decide +kernel
theorem dX12_wallAll_5 : decode cX12_wallAll 5 = .ok (.aload_n 0, 1) := by decide +kernel
theorem dX12_wallAll_6 : decode cX12_wallAll 6 = .ok (.getfield 13, 3) := by decide +kernel
theorem dX12_wallAll_9 : decode cX12_wallAll 9 = .ok (.if_icmp .ge 15, 3) := by decide +kernel
theorem dX12_wallAll_12 : decode cX12_wallAll 12 = .ok (.iload_n 2, 1) := by decide +kernel
theorem dX12_wallAll_13 : decode cX12_wallAll 13 = .ok (.aload_n 1, 1) := by decide +kernel
theorem dX12_wallAll_14 : decode cX12_wallAll 14 = .ok (.iload_n 3, 1) := by decide +kernel
theorem dX12_wallAll_15 : decode cX12_wallAll 15 = .ok (.iaload, 1) := by decide +kernel
theorem dX12_wallAll_16 : decode cX12_wallAll 16 = .ok (.iadd, 1) := by decide +kernel
theorem dX12_wallAll_17 : decode cX12_wallAll 17 = .ok (.istore_n 2, 1) := by decide +kernel
theorem dX12_wallAll_18 : decode cX12_wallAll 18 = .ok (.iinc 3 1, 3) := by decide +kernel
theorem dX12_wallAll_21 : decode cX12_wallAll 21 = .ok (.goto (-17), 3) := by decide +kernel
theorem dX12_wallAll_24 : decode cX12_wallAll 24 = .ok (.iload_n 2, 1) := by decide +kernel
theorem dX12_wallAll_25 : decode cX12_wallAll 25 = .ok (.ireturn, 1) := by decide +kernel
theorem dX12_sign_0 : decode cX12_sign 0 = .ok (.aload_n 0, 1) := by decide +kernel
theorem dX12_sign_1 : decode cX12_sign 1 = .ok (.iconst 0, 1) := by decide +kernel
theorem dX12_sign_2 : decode cX12_sign 2 = .ok (.putfield 112, 3) := by decide +kernel
theorem dX12_sign_5 : decode cX12_sign 5 = .ok (.aload_n 0, 1) := by decide +kernel
theorem dX12_sign_6 : decode cX12_sign 6 = .ok (.getfield 133, 3) := by decide +kernel
theorem dX12_sign_9 : decode cX12_sign 9 = .ok (.bipush 76, 2) := by decide +kernel
theorem dX12_sign_11 : decode cX12_sign 11 = .ok (.if_icmp .le 5, 3) := by decide +kernel
theorem dX12_sign_14 : decode cX12_sign 14 = .ok (.iconst (-1), 1) := by decide +kernel
theorem dX12_sign_15 : decode cX12_sign 15 = .ok (.ireturn, 1) := by decide +kernel
theorem dX12_sign_16 : decode cX12_sign 16 = .ok (.iconst 0, 1) := by decide +kernel
theorem dX12_sign_17 : decode cX12_sign 17 = .ok (.istore_n 2, 1) := by decide +kernel
theorem dX12_sign_18 : decode cX12_sign 18 = .ok (.iload_n 2, 1) := by decide +kernel
theorem dX12_sign_19 : decode cX12_sign 19 = .ok (.iconst 4, 1) := by decide +kernel
theorem dX12_sign_20 : decode cX12_sign 20 = .ok (.if_icmp .ge 33, 3) := by decide +kernel
theorem dX12_sign_23 : decode cX12_sign 23 = .ok (.aload_n 0, 1) := by decide +kernel
theorem dX12_sign_24 : decode cX12_sign 24 = .ok (.getfield 42, 3) := by decide +kernel
theorem dX12_sign_27 : decode cX12_sign 27 = .ok (.aload_n 0, 1) := by decide +kernel
theorem dX12_sign_28 : decode cX12_sign 28 = .ok (.getfield 133, 3) := by decide +kernel
theorem dX12_sign_31 : decode cX12_sign 31 = .ok (.iload_n 2, 1) := by decide +kernel
theorem dX12_sign_32 : decode cX12_sign 32 = .ok (.iadd, 1) := by decide +kernel
theorem dX12_sign_33 : decode cX12_sign 33 = .ok (.iload_n 1, 1) := by decide +kernel
theorem dX12_sign_34 : decode cX12_sign 34 = .ok (.bipush 24, 2) := by decide +kernel
theorem dX12_sign_36 : decode cX12_sign 36 = .ok (.bipush 8, 2) := by decide +kernel
theorem dX12_sign_38 : decode cX12_sign 38 = .ok (.iload_n 2, 1) := by decide +kernel
theorem dX12_sign_39 : decode cX12_sign 39 = .ok (.imul, 1) := by decide +kernel
theorem dX12_sign_40 : decode cX12_sign 40 = .ok (.isub, 1) := by decide +kernel
theorem dX12_sign_41 : decode cX12_sign 41 = .ok (.ishr, 1) := by decide +kernel
theorem dX12_sign_42 : decode cX12_sign 42 = .ok (.sipush 255, 3) := by decide +kernel
theorem dX12_sign_45 : decode cX12_sign 45 = .ok (.iand, 1) := by decide +kernel
theorem dX12_sign_46 : decode cX12_sign 46 = .ok (.iastore, 1) := by decide +kernel
theorem dX12_sign_47 : decode cX12_sign 47 = .ok (.iinc 2 1, 3) := by decide +kernel
theorem dX12_sign_50 : decode cX12_sign 50 = .ok (.goto (-32), 3) := by decide +kernel
theorem dX12_sign_53 : decode cX12_sign 53 = .ok (.aload_n 0, 1) := by decide +kernel
theorem dX12_sign_54 : decode cX12_sign 54 = .ok (.dup, 1) := by decide +kernel
theorem dX12_sign_55 : decode cX12_sign 55 = .ok (.getfield 133, 3) := by decide +kernel
theorem dX12_sign_58 : decode cX12_sign 58 = .ok (.iconst 4, 1) := by decide +kernel
theorem dX12_sign_59 : decode cX12_sign 59 = .ok (.iadd, 1) := by decide +kernel
theorem dX12_sign_60 : decode cX12_sign 60 = .ok (.putfield 133, 3) := by decide +kernel
theorem dX12_sign_63 : decode cX12_sign 63 = .ok (.aload_n 0, 1) := by decide +kernel
theorem dX12_sign_64 : decode cX12_sign 64 = .ok (.getfield 133, 3) := by decide +kernel
theorem dX12_sign_67 : decode cX12_sign 67 = .ok (.ireturn, 1) := by decide +kernel
theorem dX12_end_0 : decode cX12_end 0 = .ok (.aload_n 0, 1) := by decide +kernel
theorem dX12_end_1 : decode cX12_end 1 = .ok (.iconst 0, 1) := by decide +kernel
theorem dX12_end_2 : decode cX12_end 2 = .ok (.putfield 112, 3) := by decide +kernel
theorem dX12_end_5 : decode cX12_end 5 = .ok (.iload_n 1, 1) := by decide +kernel
theorem dX12_end_6 : decode cX12_end 6 = .ok (.i2l, 1) := by decide +kernel
theorem dX12_end_7 : decode cX12_end 7 = .ok (.lconst 0, 1) := by decide +kernel
theorem dX12_end_8 : decode cX12_end 8 = .ok (.aload_n 0, 1) := by decide +kernel
theorem dX12_end_9 : decode cX12_end 9 = .ok (.getfield 133, 3) := by decide +kernel
theorem dX12_end_12 : decode cX12_end 12 = .ok (.i2l, 1) := by decide +kernel
theorem dX12_end_13 : decode cX12_end 13 = .ok (.invokestatic 122, 3) := by decide +kernel
theorem dX12_end_16 : decode cX12_end 16 = .ok (.ifCond .ne 5, 3) := by decide +kernel
theorem dX12_end_19 : decode cX12_end 19 = .ok (.iconst 0, 1) := by decide +kernel
theorem dX12_end_20 : decode cX12_end 20 = .ok (.ireturn, 1) := by decide +kernel
theorem dX12_end_21 : decode cX12_end 21 = .ok (.aload_n 0, 1) := by decide +kernel
theorem dX12_end_22 : decode cX12_end 22 = .ok (.iload_n 1, 1) := by decide +kernel
theorem dX12_end_23 : decode cX12_end 23 = .ok (.putfield 133, 3) := by decide +kernel
theorem dX12_end_26 : decode cX12_end 26 = .ok (.iconst 1, 1) := by decide +kernel
theorem dX12_end_27 : decode cX12_end 27 = .ok (.ireturn, 1) := by decide +kernel
theorem dX12_begins_0 : decode cX12_begins 0 = .ok (.aload_n 0, 1) := by decide +kernel
theorem dX12_begins_1 : decode cX12_begins 1 = .ok (.getfield 133, 3) := by decide +kernel
theorem dX12_begins_4 : decode cX12_begins 4 = .ok (.istore_n 2, 1) := by decide +kernel
theorem dX12_begins_5 : decode cX12_begins 5 = .ok (.aload_n 0, 1) := by decide +kernel
theorem dX12_begins_6 : decode cX12_begins 6 = .ok (.iconst 0, 1) := by decide +kernel
theorem dX12_begins_7 : decode cX12_begins 7 = .ok (.putfield 133, 3) := by decide +kernel
theorem dX12_begins_10 : decode cX12_begins 10 = .ok (.aload_n 0, 1) := by decide +kernel
theorem dX12_begins_11 : decode cX12_begins 11 = .ok (.iconst 0, 1) := by decide +kernel
theorem dX12_begins_12 : decode cX12_begins 12 = .ok (.putfield 136, 3) := by decide +kernel
theorem dX12_begins_15 : decode cX12_begins 15 = .ok (.aload_n 0, 1) := by decide +kernel
theorem dX12_begins_16 : decode cX12_begins 16 = .ok (.iconst 0, 1) := by decide +kernel
theorem dX12_begins_17 : decode cX12_begins 17 = .ok (.putfield 139, 3) := by decide +kernel
theorem dX12_begins_20 : decode cX12_begins 20 = .ok (.aload_n 0, 1) := by decide +kernel
theorem dX12_begins_21 : decode cX12_begins 21 = .ok (.iload_n 2, 1) := by decide +kernel
theorem dX12_begins_22 : decode cX12_begins 22 = .ok (.iload_n 1, 1) := by decide +kernel
theorem dX12_begins_23 : decode cX12_begins 23 = .ok (.invokestatic 142, 3) := by decide +kernel
theorem dX12_begins_26 : decode cX12_begins 26 = .ok (.putfield 148, 3) := by decide +kernel
theorem dX12_begins_29 : decode cX12_begins 29 = .ok (.iload_n 2, 1) := by decide +kernel
theorem dX12_begins_30 : decode cX12_begins 30 = .ok (.ireturn, 1) := by decide +kernel
theorem dX12_takes_0 : decode cX12_takes 0 = .ok (.aload_n 0, 1) := by decide +kernel
theorem dX12_takes_1 : decode cX12_takes 1 = .ok (.getfield 136, 3) := by decide +kernel
theorem dX12_takes_4 : decode cX12_takes 4 = .ok (.aload_n 0, 1) := by decide +kernel
theorem dX12_takes_5 : decode cX12_takes 5 = .ok (.getfield 148, 3) := by decide +kernel
theorem dX12_takes_8 : decode cX12_takes 8 = .ok (.if_icmp .ge 20, 3) := by decide +kernel
theorem dX12_takes_11 : decode cX12_takes 11 = .ok (.aload_n 0, 1) := by decide +kernel
theorem dX12_takes_12 : decode cX12_takes 12 = .ok (.getfield 42, 3) := by decide +kernel
theorem dX12_takes_15 : decode cX12_takes 15 = .ok (.aload_n 0, 1) := by decide +kernel
theorem dX12_takes_16 : decode cX12_takes 16 = .ok (.getfield 136, 3) := by decide +kernel
theorem dX12_takes_19 : decode cX12_takes 19 = .ok (.iaload, 1) := by decide +kernel
theorem dX12_takes_20 : decode cX12_takes 20 = .ok (.iload_n 1, 1) := by decide +kernel
theorem dX12_takes_21 : decode cX12_takes 21 = .ok (.if_icmp .ne 7, 3) := by decide +kernel
theorem dX12_takes_24 : decode cX12_takes 24 = .ok (.iconst 1, 1) := by decide +kernel
theorem dX12_takes_25 : decode cX12_takes 25 = .ok (.goto 4, 3) := by decide +kernel
theorem dX12_takes_28 : decode cX12_takes 28 = .ok (.iconst 0, 1) := by decide +kernel
theorem dX12_takes_29 : decode cX12_takes 29 = .ok (.istore_n 2, 1) := by decide +kernel
theorem dX12_takes_30 : decode cX12_takes 30 = .ok (.aload_n 0, 1) := by decide +kernel
theorem dX12_takes_31 : decode cX12_takes 31 = .ok (.dup, 1) := by decide +kernel
theorem dX12_takes_32 : decode cX12_takes 32 = .ok (.getfield 136, 3) := by decide +kernel
theorem dX12_takes_35 : decode cX12_takes 35 = .ok (.iload_n 2, 1) := by decide +kernel
theorem dX12_takes_36 : decode cX12_takes 36 = .ok (.invokestatic 151, 3) := by decide +kernel
theorem dX12_takes_39 : decode cX12_takes 39 = .ok (.iadd, 1) := by decide +kernel
theorem dX12_takes_40 : decode cX12_takes 40 = .ok (.putfield 136, 3) := by decide +kernel
theorem dX12_takes_43 : decode cX12_takes 43 = .ok (.iload_n 2, 1) := by decide +kernel
theorem dX12_takes_44 : decode cX12_takes 44 = .ok (.ireturn, 1) := by decide +kernel
theorem dX12_isDigit_0 : decode cX12_isDigit 0 = .ok (.aload_n 0, 1) := by decide +kernel
theorem dX12_isDigit_1 : decode cX12_isDigit 1 = .ok (.getfield 136, 3) := by decide +kernel
theorem dX12_isDigit_4 : decode cX12_isDigit 4 = .ok (.aload_n 0, 1) := by decide +kernel
theorem dX12_isDigit_5 : decode cX12_isDigit 5 = .ok (.getfield 148, 3) := by decide +kernel
theorem dX12_isDigit_8 : decode cX12_isDigit 8 = .ok (.if_icmp .ge 29, 3) := by decide +kernel
theorem dX12_isDigit_11 : decode cX12_isDigit 11 = .ok (.aload_n 0, 1) := by decide +kernel
theorem dX12_isDigit_12 : decode cX12_isDigit 12 = .ok (.getfield 42, 3) := by decide +kernel
theorem dX12_isDigit_15 : decode cX12_isDigit 15 = .ok (.aload_n 0, 1) := by decide +kernel
theorem dX12_isDigit_16 : decode cX12_isDigit 16 = .ok (.getfield 136, 3) := by decide +kernel
theorem dX12_isDigit_19 : decode cX12_isDigit 19 = .ok (.iaload, 1) := by decide +kernel
theorem dX12_isDigit_20 : decode cX12_isDigit 20 = .ok (.i2l, 1) := by decide +kernel
theorem dX12_isDigit_21 : decode cX12_isDigit 21 = .ok (.ldc2_w 155, 3) := by decide +kernel
theorem dX12_isDigit_24 : decode cX12_isDigit 24 = .ok (.ldc2_w 157, 3) := by decide +kernel
theorem dX12_isDigit_27 : decode cX12_isDigit 27 = .ok (.invokestatic 122, 3) := by decide +kernel
theorem dX12_isDigit_30 : decode cX12_isDigit 30 = .ok (.ifCond .eq 7, 3) := by decide +kernel
theorem dX12_isDigit_33 : decode cX12_isDigit 33 = .ok (.iconst 1, 1) := by decide +kernel
theorem dX12_isDigit_34 : decode cX12_isDigit 34 = .ok (.goto 4, 3) := by decide +kernel
theorem dX12_isDigit_37 : decode cX12_isDigit 37 = .ok (.iconst 0, 1) := by decide +kernel
theorem dX12_isDigit_38 : decode cX12_isDigit 38 = .ok (.ireturn, 1) := by decide +kernel
theorem dX12_among_0 : decode cX12_among 0 = .ok (.iconst 0, 1) := by decide +kernel
theorem dX12_among_1 : decode cX12_among 1 = .ok (.istore_n 2, 1) := by decide +kernel
theorem dX12_among_2 : decode cX12_among 2 = .ok (.iload_n 2, 1) := by decide +kernel
theorem dX12_among_3 : decode cX12_among 3 = .ok (.aload_n 1, 1) := by decide +kernel
theorem dX12_among_4 : decode cX12_among 4 = .ok (.invokevirtual 159, 3) := by decide +kernel
theorem dX12_among_7 : decode cX12_among 7 = .ok (.if_icmp .ge 39, 3) := by decide +kernel
theorem dX12_among_10 : decode cX12_among 10 = .ok (.aload_n 0, 1) := by decide +kernel
theorem dX12_among_11 : decode cX12_among 11 = .ok (.getfield 136, 3) := by decide +kernel
theorem dX12_among_14 : decode cX12_among 14 = .ok (.aload_n 0, 1) := by decide +kernel
theorem dX12_among_15 : decode cX12_among 15 = .ok (.getfield 148, 3) := by decide +kernel
theorem dX12_among_18 : decode cX12_among 18 = .ok (.if_icmp .ge 28, 3) := by decide +kernel
theorem dX12_among_21 : decode cX12_among 21 = .ok (.aload_n 1, 1) := by decide +kernel
theorem dX12_among_22 : decode cX12_among 22 = .ok (.iload_n 2, 1) := by decide +kernel
theorem dX12_among_23 : decode cX12_among 23 = .ok (.invokevirtual 165, 3) := by decide +kernel
theorem dX12_among_26 : decode cX12_among 26 = .ok (.aload_n 0, 1) := by decide +kernel
theorem dX12_among_27 : decode cX12_among 27 = .ok (.getfield 42, 3) := by decide +kernel
theorem dX12_among_30 : decode cX12_among 30 = .ok (.aload_n 0, 1) := by decide +kernel
theorem dX12_among_31 : decode cX12_among 31 = .ok (.getfield 136, 3) := by decide +kernel
theorem dX12_among_34 : decode cX12_among 34 = .ok (.iaload, 1) := by decide +kernel
theorem dX12_among_35 : decode cX12_among 35 = .ok (.if_icmp .ne 5, 3) := by decide +kernel
theorem dX12_among_38 : decode cX12_among 38 = .ok (.iload_n 2, 1) := by decide +kernel
theorem dX12_among_39 : decode cX12_among 39 = .ok (.ireturn, 1) := by decide +kernel
theorem dX12_among_40 : decode cX12_among 40 = .ok (.iinc 2 1, 3) := by decide +kernel
theorem dX12_among_43 : decode cX12_among 43 = .ok (.goto (-41), 3) := by decide +kernel
theorem dX12_among_46 : decode cX12_among 46 = .ok (.iconst (-1), 1) := by decide +kernel
theorem dX12_among_47 : decode cX12_among 47 = .ok (.ireturn, 1) := by decide +kernel
theorem dX12_takesOf_0 : decode cX12_takesOf 0 = .ok (.aload_n 0, 1) := by decide +kernel
theorem dX12_takesOf_1 : decode cX12_takesOf 1 = .ok (.aload_n 1, 1) := by decide +kernel
theorem dX12_takesOf_2 : decode cX12_takesOf 2 = .ok (.invokevirtual 169, 3) := by decide +kernel
theorem dX12_takesOf_5 : decode cX12_takesOf 5 = .ok (.istore_n 2, 1) := by decide +kernel
theorem dX12_takesOf_6 : decode cX12_takesOf 6 = .ok (.aload_n 0, 1) := by decide +kernel
theorem dX12_takesOf_7 : decode cX12_takesOf 7 = .ok (.dup, 1) := by decide +kernel
theorem dX12_takesOf_8 : decode cX12_takesOf 8 = .ok (.getfield 136, 3) := by decide +kernel
theorem dX12_takesOf_11 : decode cX12_takesOf 11 = .ok (.iload_n 2, 1) := by decide +kernel
theorem dX12_takesOf_12 : decode cX12_takesOf 12 = .ok (.ifCond .lt 7, 3) := by decide +kernel
theorem dX12_takesOf_15 : decode cX12_takesOf 15 = .ok (.iconst 1, 1) := by decide +kernel
theorem dX12_takesOf_16 : decode cX12_takesOf 16 = .ok (.goto 4, 3) := by decide +kernel
theorem dX12_takesOf_19 : decode cX12_takesOf 19 = .ok (.iconst 0, 1) := by decide +kernel
theorem dX12_takesOf_20 : decode cX12_takesOf 20 = .ok (.invokestatic 151, 3) := by decide +kernel
theorem dX12_takesOf_23 : decode cX12_takesOf 23 = .ok (.iadd, 1) := by decide +kernel
theorem dX12_takesOf_24 : decode cX12_takesOf 24 = .ok (.putfield 136, 3) := by decide +kernel
theorem dX12_takesOf_27 : decode cX12_takesOf 27 = .ok (.iload_n 2, 1) := by decide +kernel
theorem dX12_takesOf_28 : decode cX12_takesOf 28 = .ok (.ireturn, 1) := by decide +kernel
theorem dX12_number_0 : decode cX12_number 0 = .ok (.aload_n 0, 1) := by decide +kernel
theorem dX12_number_1 : decode cX12_number 1 = .ok (.invokevirtual 173, 3) := by decide +kernel
theorem dX12_number_4 : decode cX12_number 4 = .ok (.ifCond .ne 5, 3) := by decide +kernel
theorem dX12_number_7 : decode cX12_number 7 = .ok (.iconst (-1), 1) := by decide +kernel
theorem dX12_number_8 : decode cX12_number 8 = .ok (.ireturn, 1) := by decide +kernel
theorem dX12_number_9 : decode cX12_number 9 = .ok (.iconst 0, 1) := by decide +kernel
theorem dX12_number_10 : decode cX12_number 10 = .ok (.istore_n 2, 1) := by decide +kernel
theorem dX12_number_11 : decode cX12_number 11 = .ok (.iconst 0, 1) := by decide +kernel
theorem dX12_number_12 : decode cX12_number 12 = .ok (.istore_n 3, 1) := by decide +kernel
theorem dX12_number_13 : decode cX12_number 13 = .ok (.iload_n 3, 1) := by decide +kernel
theorem dX12_number_14 : decode cX12_number 14 = .ok (.iload_n 1, 1) := by decide +kernel
theorem dX12_number_15 : decode cX12_number 15 = .ok (.if_icmp .ge 44, 3) := by decide +kernel
theorem dX12_number_18 : decode cX12_number 18 = .ok (.aload_n 0, 1) := by decide +kernel
theorem dX12_number_19 : decode cX12_number 19 = .ok (.invokevirtual 173, 3) := by decide +kernel
theorem dX12_number_22 : decode cX12_number 22 = .ok (.ifCond .eq 37, 3) := by decide +kernel
theorem dX12_number_25 : decode cX12_number 25 = .ok (.bipush 10, 2) := by decide +kernel
theorem dX12_number_27 : decode cX12_number 27 = .ok (.iload_n 2, 1) := by decide +kernel
theorem dX12_number_28 : decode cX12_number 28 = .ok (.imul, 1) := by decide +kernel
theorem dX12_number_29 : decode cX12_number 29 = .ok (.aload_n 0, 1) := by decide +kernel
theorem dX12_number_30 : decode cX12_number 30 = .ok (.getfield 42, 3) := by decide +kernel
theorem dX12_number_33 : decode cX12_number 33 = .ok (.aload_n 0, 1) := by decide +kernel
theorem dX12_number_34 : decode cX12_number 34 = .ok (.getfield 136, 3) := by decide +kernel
theorem dX12_number_37 : decode cX12_number 37 = .ok (.iaload, 1) := by decide +kernel
theorem dX12_number_38 : decode cX12_number 38 = .ok (.iadd, 1) := by decide +kernel
theorem dX12_number_39 : decode cX12_number 39 = .ok (.bipush 48, 2) := by decide +kernel
theorem dX12_number_41 : decode cX12_number 41 = .ok (.isub, 1) := by decide +kernel
theorem dX12_number_42 : decode cX12_number 42 = .ok (.istore_n 2, 1) := by decide +kernel
theorem dX12_number_43 : decode cX12_number 43 = .ok (.aload_n 0, 1) := by decide +kernel
theorem dX12_number_44 : decode cX12_number 44 = .ok (.dup, 1) := by decide +kernel
theorem dX12_number_45 : decode cX12_number 45 = .ok (.getfield 136, 3) := by decide +kernel
theorem dX12_number_48 : decode cX12_number 48 = .ok (.iconst 1, 1) := by decide +kernel
theorem dX12_number_49 : decode cX12_number 49 = .ok (.iadd, 1) := by decide +kernel
theorem dX12_number_50 : decode cX12_number 50 = .ok (.putfield 136, 3) := by decide +kernel
theorem dX12_number_53 : decode cX12_number 53 = .ok (.iinc 3 1, 3) := by decide +kernel
theorem dX12_number_56 : decode cX12_number 56 = .ok (.goto (-43), 3) := by decide +kernel
theorem dX12_number_59 : decode cX12_number 59 = .ok (.iload_n 2, 1) := by decide +kernel
theorem dX12_number_60 : decode cX12_number 60 = .ok (.ireturn, 1) := by decide +kernel
theorem dX12_numberIn_0 : decode cX12_numberIn 0 = .ok (.aload_n 0, 1) := by decide +kernel
theorem dX12_numberIn_1 : decode cX12_numberIn 1 = .ok (.iload_n 1, 1) := by decide +kernel
theorem dX12_numberIn_2 : decode cX12_numberIn 2 = .ok (.invokevirtual 177, 3) := by decide +kernel
theorem dX12_numberIn_5 : decode cX12_numberIn 5 = .ok (.istore 4, 2) := by decide +kernel
theorem dX12_numberIn_7 : decode cX12_numberIn 7 = .ok (.iload 4, 2) := by decide +kernel
theorem dX12_numberIn_9 : decode cX12_numberIn 9 = .ok (.ifCond .lt 16, 3) := by decide +kernel
theorem dX12_numberIn_12 : decode cX12_numberIn 12 = .ok (.iload 4, 2) := by decide +kernel
theorem dX12_numberIn_14 : decode cX12_numberIn 14 = .ok (.i2l, 1) := by decide +kernel
theorem dX12_numberIn_15 : decode cX12_numberIn 15 = .ok (.iload_n 2, 1) := by decide +kernel
theorem dX12_numberIn_16 : decode cX12_numberIn 16 = .ok (.i2l, 1) := by decide +kernel
theorem dX12_numberIn_17 : decode cX12_numberIn 17 = .ok (.iload_n 3, 1) := by decide +kernel
theorem dX12_numberIn_18 : decode cX12_numberIn 18 = .ok (.i2l, 1) := by decide +kernel
theorem dX12_numberIn_19 : decode cX12_numberIn 19 = .ok (.invokestatic 122, 3) := by decide +kernel
theorem dX12_numberIn_22 : decode cX12_numberIn 22 = .ok (.ifCond .eq 6, 3) := by decide +kernel
theorem dX12_numberIn_25 : decode cX12_numberIn 25 = .ok (.iload 4, 2) := by decide +kernel
theorem dX12_numberIn_27 : decode cX12_numberIn 27 = .ok (.ireturn, 1) := by decide +kernel
theorem dX12_numberIn_28 : decode cX12_numberIn 28 = .ok (.aload_n 0, 1) := by decide +kernel
theorem dX12_numberIn_29 : decode cX12_numberIn 29 = .ok (.dup, 1) := by decide +kernel
theorem dX12_numberIn_30 : decode cX12_numberIn 30 = .ok (.getfield 136, 3) := by decide +kernel
theorem dX12_numberIn_33 : decode cX12_numberIn 33 = .ok (.iconst 1, 1) := by decide +kernel
theorem dX12_numberIn_34 : decode cX12_numberIn 34 = .ok (.isub, 1) := by decide +kernel
theorem dX12_numberIn_35 : decode cX12_numberIn 35 = .ok (.putfield 136, 3) := by decide +kernel
theorem dX12_numberIn_38 : decode cX12_numberIn 38 = .ok (.iconst (-1), 1) := by decide +kernel
theorem dX12_numberIn_39 : decode cX12_numberIn 39 = .ok (.ireturn, 1) := by decide +kernel
theorem dX12_signIn_0 : decode cX12_signIn 0 = .ok (.aload_n 0, 1) := by decide +kernel
theorem dX12_signIn_1 : decode cX12_signIn 1 = .ok (.getfield 136, 3) := by decide +kernel
theorem dX12_signIn_4 : decode cX12_signIn 4 = .ok (.aload_n 0, 1) := by decide +kernel
theorem dX12_signIn_5 : decode cX12_signIn 5 = .ok (.getfield 148, 3) := by decide +kernel
theorem dX12_signIn_8 : decode cX12_signIn 8 = .ok (.if_icmp .ge 25, 3) := by decide +kernel
theorem dX12_signIn_11 : decode cX12_signIn 11 = .ok (.aload_n 0, 1) := by decide +kernel
theorem dX12_signIn_12 : decode cX12_signIn 12 = .ok (.getfield 42, 3) := by decide +kernel
theorem dX12_signIn_15 : decode cX12_signIn 15 = .ok (.aload_n 0, 1) := by decide +kernel
theorem dX12_signIn_16 : decode cX12_signIn 16 = .ok (.getfield 136, 3) := by decide +kernel
theorem dX12_signIn_19 : decode cX12_signIn 19 = .ok (.iaload, 1) := by decide +kernel
theorem dX12_signIn_20 : decode cX12_signIn 20 = .ok (.iload_n 1, 1) := by decide +kernel
theorem dX12_signIn_21 : decode cX12_signIn 21 = .ok (.isub, 1) := by decide +kernel
theorem dX12_signIn_22 : decode cX12_signIn 22 = .ok (.i2l, 1) := by decide +kernel
theorem dX12_signIn_23 : decode cX12_signIn 23 = .ok (.iload_n 2, 1) := by decide +kernel
theorem dX12_signIn_24 : decode cX12_signIn 24 = .ok (.i2l, 1) := by decide +kernel
theorem dX12_signIn_25 : decode cX12_signIn 25 = .ok (.iload_n 3, 1) := by decide +kernel
theorem dX12_signIn_26 : decode cX12_signIn 26 = .ok (.i2l, 1) := by decide +kernel
theorem dX12_signIn_27 : decode cX12_signIn 27 = .ok (.invokestatic 122, 3) := by decide +kernel
theorem dX12_signIn_30 : decode cX12_signIn 30 = .ok (.ifCond .ne 5, 3) := by decide +kernel
theorem dX12_signIn_33 : decode cX12_signIn 33 = .ok (.iconst (-1), 1) := by decide +kernel
theorem dX12_signIn_34 : decode cX12_signIn 34 = .ok (.ireturn, 1) := by decide +kernel
theorem dX12_signIn_35 : decode cX12_signIn 35 = .ok (.aload_n 0, 1) := by decide +kernel
theorem dX12_signIn_36 : decode cX12_signIn 36 = .ok (.dup, 1) := by decide +kernel
theorem dX12_signIn_37 : decode cX12_signIn 37 = .ok (.getfield 136, 3) := by decide +kernel
theorem dX12_signIn_40 : decode cX12_signIn 40 = .ok (.iconst 1, 1) := by decide +kernel
theorem dX12_signIn_41 : decode cX12_signIn 41 = .ok (.iadd, 1) := by decide +kernel
theorem dX12_signIn_42 : decode cX12_signIn 42 = .ok (.putfield 136, 3) := by decide +kernel
theorem dX12_signIn_45 : decode cX12_signIn 45 = .ok (.aload_n 0, 1) := by decide +kernel
theorem dX12_signIn_46 : decode cX12_signIn 46 = .ok (.getfield 42, 3) := by decide +kernel
theorem dX12_signIn_49 : decode cX12_signIn 49 = .ok (.aload_n 0, 1) := by decide +kernel
theorem dX12_signIn_50 : decode cX12_signIn 50 = .ok (.getfield 136, 3) := by decide +kernel
theorem dX12_signIn_53 : decode cX12_signIn 53 = .ok (.iconst 1, 1) := by decide +kernel
theorem dX12_signIn_54 : decode cX12_signIn 54 = .ok (.isub, 1) := by decide +kernel
theorem dX12_signIn_55 : decode cX12_signIn 55 = .ok (.iaload, 1) := by decide +kernel
theorem dX12_signIn_56 : decode cX12_signIn 56 = .ok (.iload_n 1, 1) := by decide +kernel
theorem dX12_signIn_57 : decode cX12_signIn 57 = .ok (.isub, 1) := by decide +kernel
theorem dX12_signIn_58 : decode cX12_signIn 58 = .ok (.ireturn, 1) := by decide +kernel
theorem dX12_faultOf_0 : decode cX12_faultOf 0 = .ok (.iload_n 3, 1) := by decide +kernel
theorem dX12_faultOf_1 : decode cX12_faultOf 1 = .ok (.ifCond .eq 18, 3) := by decide +kernel
theorem dX12_faultOf_4 : decode cX12_faultOf 4 = .ok (.aload_n 0, 1) := by decide +kernel
theorem dX12_faultOf_5 : decode cX12_faultOf 5 = .ok (.getfield 136, 3) := by decide +kernel
theorem dX12_faultOf_8 : decode cX12_faultOf 8 = .ok (.aload_n 0, 1) := by decide +kernel
theorem dX12_faultOf_9 : decode cX12_faultOf 9 = .ok (.getfield 148, 3) := by decide +kernel
theorem dX12_faultOf_12 : decode cX12_faultOf 12 = .ok (.if_icmp .ne 7, 3) := by decide +kernel
theorem dX12_faultOf_15 : decode cX12_faultOf 15 = .ok (.iconst 1, 1) := by decide +kernel
theorem dX12_faultOf_16 : decode cX12_faultOf 16 = .ok (.goto 4, 3) := by decide +kernel
theorem dX12_faultOf_19 : decode cX12_faultOf 19 = .ok (.iconst 0, 1) := by decide +kernel
theorem dX12_faultOf_20 : decode cX12_faultOf 20 = .ok (.istore 4, 2) := by decide +kernel
theorem dX12_faultOf_22 : decode cX12_faultOf 22 = .ok (.iload_n 1, 1) := by decide +kernel
theorem dX12_faultOf_23 : decode cX12_faultOf 23 = .ok (.iload_n 2, 1) := by decide +kernel
theorem dX12_faultOf_24 : decode cX12_faultOf 24 = .ok (.if_icmp .le 20, 3) := by decide +kernel
theorem dX12_faultOf_27 : decode cX12_faultOf 27 = .ok (.iload 4, 2) := by decide +kernel
theorem dX12_faultOf_29 : decode cX12_faultOf 29 = .ok (.ifCond .ne 11, 3) := by decide +kernel
theorem dX12_faultOf_32 : decode cX12_faultOf 32 = .ok (.aload_n 0, 1) := by decide +kernel
theorem dX12_faultOf_33 : decode cX12_faultOf 33 = .ok (.getfield 136, 3) := by decide +kernel
theorem dX12_faultOf_36 : decode cX12_faultOf 36 = .ok (.iload_n 2, 1) := by decide +kernel
theorem dX12_faultOf_37 : decode cX12_faultOf 37 = .ok (.if_icmp .lt 7, 3) := by decide +kernel
theorem dX12_faultOf_40 : decode cX12_faultOf 40 = .ok (.iconst (-1), 1) := by decide +kernel
theorem dX12_faultOf_41 : decode cX12_faultOf 41 = .ok (.iload_n 2, 1) := by decide +kernel
theorem dX12_faultOf_42 : decode cX12_faultOf 42 = .ok (.isub, 1) := by decide +kernel
theorem dX12_faultOf_43 : decode cX12_faultOf 43 = .ok (.ireturn, 1) := by decide +kernel
theorem dX12_faultOf_44 : decode cX12_faultOf 44 = .ok (.iload 4, 2) := by decide +kernel
theorem dX12_faultOf_46 : decode cX12_faultOf 46 = .ok (.ifCond .eq 7, 3) := by decide +kernel
theorem dX12_faultOf_49 : decode cX12_faultOf 49 = .ok (.iconst 0, 1) := by decide +kernel
theorem dX12_faultOf_50 : decode cX12_faultOf 50 = .ok (.goto 9, 3) := by decide +kernel
theorem dX12_faultOf_53 : decode cX12_faultOf 53 = .ok (.iconst (-1), 1) := by decide +kernel
theorem dX12_faultOf_54 : decode cX12_faultOf 54 = .ok (.aload_n 0, 1) := by decide +kernel
theorem dX12_faultOf_55 : decode cX12_faultOf 55 = .ok (.getfield 136, 3) := by decide +kernel
theorem dX12_faultOf_58 : decode cX12_faultOf 58 = .ok (.isub, 1) := by decide +kernel
theorem dX12_faultOf_59 : decode cX12_faultOf 59 = .ok (.ireturn, 1) := by decide +kernel
theorem dX12_shore_0 : decode cX12_shore 0 = .ok (.aload_n 0, 1) := by decide +kernel
theorem dX12_shore_1 : decode cX12_shore 1 = .ok (.iconst 0, 1) := by decide +kernel
theorem dX12_shore_2 : decode cX12_shore 2 = .ok (.putfield 112, 3) := by decide +kernel
theorem dX12_shore_5 : decode cX12_shore 5 = .ok (.aload_n 0, 1) := by decide +kernel
theorem dX12_shore_6 : decode cX12_shore 6 = .ok (.bipush 80, 2) := by decide +kernel
theorem dX12_shore_8 : decode cX12_shore 8 = .ok (.invokevirtual 181, 3) := by decide +kernel
theorem dX12_shore_11 : decode cX12_shore 11 = .ok (.pop, 1) := by decide +kernel
theorem dX12_shore_12 : decode cX12_shore 12 = .ok (.iconst 0, 1) := by decide +kernel
theorem dX12_shore_13 : decode cX12_shore 13 = .ok (.istore_n 1, 1) := by decide +kernel
theorem dX12_shore_14 : decode cX12_shore 14 = .ok (.iconst 1, 1) := by decide +kernel
theorem dX12_shore_15 : decode cX12_shore 15 = .ok (.istore_n 2, 1) := by decide +kernel
theorem dX12_shore_16 : decode cX12_shore 16 = .ok (.iload_n 2, 1) := by decide +kernel
theorem dX12_shore_17 : decode cX12_shore 17 = .ok (.ifCond .eq 145, 3) := by decide +kernel
theorem dX12_shore_20 : decode cX12_shore 20 = .ok (.iload_n 1, 1) := by decide +kernel
theorem dX12_shore_21 : decode cX12_shore 21 = .ok (.ifCond .eq 14, 3) := by decide +kernel
theorem dX12_shore_24 : decode cX12_shore 24 = .ok (.aload_n 0, 1) := by decide +kernel
theorem dX12_shore_25 : decode cX12_shore 25 = .ok (.getfield 136, 3) := by decide +kernel
theorem dX12_shore_28 : decode cX12_shore 28 = .ok (.aload_n 0, 1) := by decide +kernel
theorem dX12_shore_29 : decode cX12_shore 29 = .ok (.getfield 148, 3) := by decide +kernel
theorem dX12_shore_32 : decode cX12_shore 32 = .ok (.if_icmp .ge 130, 3) := by decide +kernel
theorem dX12_shore_35 : decode cX12_shore 35 = .ok (.aload_n 0, 1) := by decide +kernel
theorem dX12_shore_36 : decode cX12_shore 36 = .ok (.getfield 45, 3) := by decide +kernel
theorem dX12_shore_39 : decode cX12_shore 39 = .ok (.iconst 2, 1) := by decide +kernel
theorem dX12_shore_40 : decode cX12_shore 40 = .ok (.iload_n 1, 1) := by decide +kernel
theorem dX12_shore_41 : decode cX12_shore 41 = .ok (.imul, 1) := by decide +kernel
theorem dX12_shore_42 : decode cX12_shore 42 = .ok (.iconst 1, 1) := by decide +kernel
theorem dX12_shore_43 : decode cX12_shore 43 = .ok (.iadd, 1) := by decide +kernel
theorem dX12_shore_44 : decode cX12_shore 44 = .ok (.iconst 0, 1) := by decide +kernel
theorem dX12_shore_45 : decode cX12_shore 45 = .ok (.iastore, 1) := by decide +kernel
theorem dX12_shore_46 : decode cX12_shore 46 = .ok (.aload_n 0, 1) := by decide +kernel
theorem dX12_shore_47 : decode cX12_shore 47 = .ok (.getfield 45, 3) := by decide +kernel
theorem dX12_shore_50 : decode cX12_shore 50 = .ok (.iconst 2, 1) := by decide +kernel
theorem dX12_shore_51 : decode cX12_shore 51 = .ok (.iload_n 1, 1) := by decide +kernel
theorem dX12_shore_52 : decode cX12_shore 52 = .ok (.imul, 1) := by decide +kernel
theorem dX12_shore_53 : decode cX12_shore 53 = .ok (.iconst (-1), 1) := by decide +kernel
theorem dX12_shore_54 : decode cX12_shore 54 = .ok (.iastore, 1) := by decide +kernel
theorem dX12_shore_55 : decode cX12_shore 55 = .ok (.iload_n 1, 1) := by decide +kernel
theorem dX12_shore_56 : decode cX12_shore 56 = .ok (.bipush 12, 2) := by decide +kernel
theorem dX12_shore_58 : decode cX12_shore 58 = .ok (.if_icmp .ge 7, 3) := by decide +kernel
theorem dX12_shore_61 : decode cX12_shore 61 = .ok (.iconst 1, 1) := by decide +kernel
theorem dX12_shore_62 : decode cX12_shore 62 = .ok (.goto 4, 3) := by decide +kernel
theorem dX12_shore_65 : decode cX12_shore 65 = .ok (.iconst 0, 1) := by decide +kernel
theorem dX12_shore_66 : decode cX12_shore 66 = .ok (.istore_n 2, 1) := by decide +kernel
theorem dX12_shore_67 : decode cX12_shore 67 = .ok (.iload_n 2, 1) := by decide +kernel
theorem dX12_shore_68 : decode cX12_shore 68 = .ok (.ifCond .eq 50, 3) := by decide +kernel
theorem dX12_shore_71 : decode cX12_shore 71 = .ok (.iload_n 1, 1) := by decide +kernel
theorem dX12_shore_72 : decode cX12_shore 72 = .ok (.ifCond .le 46, 3) := by decide +kernel
theorem dX12_shore_75 : decode cX12_shore 75 = .ok (.aload_n 0, 1) := by decide +kernel
theorem dX12_shore_76 : decode cX12_shore 76 = .ok (.bipush 124, 2) := by decide +kernel
theorem dX12_shore_78 : decode cX12_shore 78 = .ok (.invokevirtual 184, 3) := by decide +kernel
theorem dX12_shore_81 : decode cX12_shore 81 = .ok (.ifCond .eq 37, 3) := by decide +kernel
theorem dX12_shore_84 : decode cX12_shore 84 = .ok (.aload_n 0, 1) := by decide +kernel
theorem dX12_shore_85 : decode cX12_shore 85 = .ok (.getfield 45, 3) := by decide +kernel
theorem dX12_shore_88 : decode cX12_shore 88 = .ok (.iconst 2, 1) := by decide +kernel
theorem dX12_shore_89 : decode cX12_shore 89 = .ok (.iload_n 1, 1) := by decide +kernel
theorem dX12_shore_90 : decode cX12_shore 90 = .ok (.imul, 1) := by decide +kernel
theorem dX12_shore_91 : decode cX12_shore 91 = .ok (.iconst 1, 1) := by decide +kernel
theorem dX12_shore_92 : decode cX12_shore 92 = .ok (.isub, 1) := by decide +kernel
theorem dX12_shore_93 : decode cX12_shore 93 = .ok (.aload_n 0, 1) := by decide +kernel
theorem dX12_shore_94 : decode cX12_shore 94 = .ok (.iconst 1, 1) := by decide +kernel
theorem dX12_shore_95 : decode cX12_shore 95 = .ok (.invokevirtual 177, 3) := by decide +kernel
theorem dX12_shore_98 : decode cX12_shore 98 = .ok (.iastore, 1) := by decide +kernel
theorem dX12_shore_99 : decode cX12_shore 99 = .ok (.aload_n 0, 1) := by decide +kernel
theorem dX12_shore_100 : decode cX12_shore 100 = .ok (.getfield 45, 3) := by decide +kernel
theorem dX12_shore_103 : decode cX12_shore 103 = .ok (.iconst 2, 1) := by decide +kernel
theorem dX12_shore_104 : decode cX12_shore 104 = .ok (.iload_n 1, 1) := by decide +kernel
theorem dX12_shore_105 : decode cX12_shore 105 = .ok (.imul, 1) := by decide +kernel
theorem dX12_shore_106 : decode cX12_shore 106 = .ok (.iconst 1, 1) := by decide +kernel
theorem dX12_shore_107 : decode cX12_shore 107 = .ok (.isub, 1) := by decide +kernel
theorem dX12_shore_108 : decode cX12_shore 108 = .ok (.iaload, 1) := by decide +kernel
theorem dX12_shore_109 : decode cX12_shore 109 = .ok (.ifCond .lt 7, 3) := by decide +kernel
theorem dX12_shore_112 : decode cX12_shore 112 = .ok (.iconst 1, 1) := by decide +kernel
theorem dX12_shore_113 : decode cX12_shore 113 = .ok (.goto 4, 3) := by decide +kernel
theorem dX12_shore_116 : decode cX12_shore 116 = .ok (.iconst 0, 1) := by decide +kernel
theorem dX12_shore_117 : decode cX12_shore 117 = .ok (.istore_n 2, 1) := by decide +kernel
theorem dX12_shore_118 : decode cX12_shore 118 = .ok (.iload_n 2, 1) := by decide +kernel
theorem dX12_shore_119 : decode cX12_shore 119 = .ok (.ifCond .eq (-103), 3) := by decide +kernel
theorem dX12_shore_122 : decode cX12_shore 122 = .ok (.aload_n 0, 1) := by decide +kernel
theorem dX12_shore_123 : decode cX12_shore 123 = .ok (.getfield 45, 3) := by decide +kernel
theorem dX12_shore_126 : decode cX12_shore 126 = .ok (.iconst 2, 1) := by decide +kernel
theorem dX12_shore_127 : decode cX12_shore 127 = .ok (.iload_n 1, 1) := by decide +kernel
theorem dX12_shore_128 : decode cX12_shore 128 = .ok (.imul, 1) := by decide +kernel
theorem dX12_shore_129 : decode cX12_shore 129 = .ok (.aload_n 0, 1) := by decide +kernel
theorem dX12_shore_130 : decode cX12_shore 130 = .ok (.iconst 1, 1) := by decide +kernel
theorem dX12_shore_131 : decode cX12_shore 131 = .ok (.invokevirtual 177, 3) := by decide +kernel
theorem dX12_shore_134 : decode cX12_shore 134 = .ok (.iastore, 1) := by decide +kernel
theorem dX12_shore_135 : decode cX12_shore 135 = .ok (.aload_n 0, 1) := by decide +kernel
theorem dX12_shore_136 : decode cX12_shore 136 = .ok (.getfield 45, 3) := by decide +kernel
theorem dX12_shore_139 : decode cX12_shore 139 = .ok (.iconst 2, 1) := by decide +kernel
theorem dX12_shore_140 : decode cX12_shore 140 = .ok (.iload_n 1, 1) := by decide +kernel
theorem dX12_shore_141 : decode cX12_shore 141 = .ok (.imul, 1) := by decide +kernel
theorem dX12_shore_142 : decode cX12_shore 142 = .ok (.iaload, 1) := by decide +kernel
theorem dX12_shore_143 : decode cX12_shore 143 = .ok (.ifCond .lt 7, 3) := by decide +kernel
theorem dX12_shore_146 : decode cX12_shore 146 = .ok (.iconst 1, 1) := by decide +kernel
theorem dX12_shore_147 : decode cX12_shore 147 = .ok (.goto 4, 3) := by decide +kernel
theorem dX12_shore_150 : decode cX12_shore 150 = .ok (.iconst 0, 1) := by decide +kernel
theorem dX12_shore_151 : decode cX12_shore 151 = .ok (.istore_n 2, 1) := by decide +kernel
theorem dX12_shore_152 : decode cX12_shore 152 = .ok (.iload_n 1, 1) := by decide +kernel
theorem dX12_shore_153 : decode cX12_shore 153 = .ok (.iload_n 2, 1) := by decide +kernel
theorem dX12_shore_154 : decode cX12_shore 154 = .ok (.invokestatic 151, 3) := by decide +kernel
theorem dX12_shore_157 : decode cX12_shore 157 = .ok (.iadd, 1) := by decide +kernel
theorem dX12_shore_158 : decode cX12_shore 158 = .ok (.istore_n 1, 1) := by decide +kernel
theorem dX12_shore_159 : decode cX12_shore 159 = .ok (.goto (-143), 3) := by decide +kernel
theorem dX12_shore_162 : decode cX12_shore 162 = .ok (.iload_n 2, 1) := by decide +kernel
theorem dX12_shore_163 : decode cX12_shore 163 = .ok (.ifCond .ne 10, 3) := by decide +kernel
theorem dX12_shore_166 : decode cX12_shore 166 = .ok (.iconst (-1), 1) := by decide +kernel
theorem dX12_shore_167 : decode cX12_shore 167 = .ok (.aload_n 0, 1) := by decide +kernel
theorem dX12_shore_168 : decode cX12_shore 168 = .ok (.getfield 136, 3) := by decide +kernel
theorem dX12_shore_171 : decode cX12_shore 171 = .ok (.isub, 1) := by decide +kernel
theorem dX12_shore_172 : decode cX12_shore 172 = .ok (.ireturn, 1) := by decide +kernel
theorem dX12_shore_173 : decode cX12_shore 173 = .ok (.aload_n 0, 1) := by decide +kernel
theorem dX12_shore_174 : decode cX12_shore 174 = .ok (.iload_n 1, 1) := by decide +kernel
theorem dX12_shore_175 : decode cX12_shore 175 = .ok (.putfield 13, 3) := by decide +kernel
theorem dX12_shore_178 : decode cX12_shore 178 = .ok (.iconst 0, 1) := by decide +kernel
theorem dX12_shore_179 : decode cX12_shore 179 = .ok (.istore_n 3, 1) := by decide +kernel
theorem dX12_shore_180 : decode cX12_shore 180 = .ok (.iload_n 3, 1) := by decide +kernel
theorem dX12_shore_181 : decode cX12_shore 181 = .ok (.bipush 12, 2) := by decide +kernel
theorem dX12_shore_183 : decode cX12_shore 183 = .ok (.if_icmp .ge 76, 3) := by decide +kernel
theorem dX12_shore_186 : decode cX12_shore 186 = .ok (.aload_n 0, 1) := by decide +kernel
theorem dX12_shore_187 : decode cX12_shore 187 = .ok (.getfield 17, 3) := by decide +kernel
theorem dX12_shore_190 : decode cX12_shore 190 = .ok (.iload_n 3, 1) := by decide +kernel
theorem dX12_shore_191 : decode cX12_shore 191 = .ok (.iload_n 3, 1) := by decide +kernel
theorem dX12_shore_192 : decode cX12_shore 192 = .ok (.iload_n 1, 1) := by decide +kernel
theorem dX12_shore_193 : decode cX12_shore 193 = .ok (.if_icmp .ge 14, 3) := by decide +kernel
theorem dX12_shore_196 : decode cX12_shore 196 = .ok (.aload_n 0, 1) := by decide +kernel
theorem dX12_shore_197 : decode cX12_shore 197 = .ok (.getfield 45, 3) := by decide +kernel
theorem dX12_shore_200 : decode cX12_shore 200 = .ok (.iconst 2, 1) := by decide +kernel
theorem dX12_shore_201 : decode cX12_shore 201 = .ok (.iload_n 3, 1) := by decide +kernel
theorem dX12_shore_202 : decode cX12_shore 202 = .ok (.imul, 1) := by decide +kernel
theorem dX12_shore_203 : decode cX12_shore 203 = .ok (.iaload, 1) := by decide +kernel
theorem dX12_shore_204 : decode cX12_shore 204 = .ok (.goto 4, 3) := by decide +kernel
theorem dX12_shore_207 : decode cX12_shore 207 = .ok (.iconst 0, 1) := by decide +kernel
theorem dX12_shore_208 : decode cX12_shore 208 = .ok (.iastore, 1) := by decide +kernel
theorem dX12_shore_209 : decode cX12_shore 209 = .ok (.aload_n 0, 1) := by decide +kernel
theorem dX12_shore_210 : decode cX12_shore 210 = .ok (.getfield 21, 3) := by decide +kernel
theorem dX12_shore_213 : decode cX12_shore 213 = .ok (.iload_n 3, 1) := by decide +kernel
theorem dX12_shore_214 : decode cX12_shore 214 = .ok (.iload_n 3, 1) := by decide +kernel
theorem dX12_shore_215 : decode cX12_shore 215 = .ok (.iload_n 1, 1) := by decide +kernel
theorem dX12_shore_216 : decode cX12_shore 216 = .ok (.iconst 1, 1) := by decide +kernel
theorem dX12_shore_217 : decode cX12_shore 217 = .ok (.isub, 1) := by decide +kernel
theorem dX12_shore_218 : decode cX12_shore 218 = .ok (.if_icmp .ge 16, 3) := by decide +kernel
theorem dX12_shore_221 : decode cX12_shore 221 = .ok (.aload_n 0, 1) := by decide +kernel
theorem dX12_shore_222 : decode cX12_shore 222 = .ok (.getfield 45, 3) := by decide +kernel
theorem dX12_shore_225 : decode cX12_shore 225 = .ok (.iconst 2, 1) := by decide +kernel
theorem dX12_shore_226 : decode cX12_shore 226 = .ok (.iload_n 3, 1) := by decide +kernel
theorem dX12_shore_227 : decode cX12_shore 227 = .ok (.imul, 1) := by decide +kernel
theorem dX12_shore_228 : decode cX12_shore 228 = .ok (.iconst 1, 1) := by decide +kernel
theorem dX12_shore_229 : decode cX12_shore 229 = .ok (.iadd, 1) := by decide +kernel
theorem dX12_shore_230 : decode cX12_shore 230 = .ok (.iaload, 1) := by decide +kernel
theorem dX12_shore_231 : decode cX12_shore 231 = .ok (.goto 4, 3) := by decide +kernel
theorem dX12_shore_234 : decode cX12_shore 234 = .ok (.iconst 0, 1) := by decide +kernel
theorem dX12_shore_235 : decode cX12_shore 235 = .ok (.iastore, 1) := by decide +kernel
theorem dX12_shore_236 : decode cX12_shore 236 = .ok (.aload_n 0, 1) := by decide +kernel
theorem dX12_shore_237 : decode cX12_shore 237 = .ok (.getfield 36, 3) := by decide +kernel
theorem dX12_shore_240 : decode cX12_shore 240 = .ok (.iload_n 3, 1) := by decide +kernel
theorem dX12_shore_241 : decode cX12_shore 241 = .ok (.iconst 0, 1) := by decide +kernel
theorem dX12_shore_242 : decode cX12_shore 242 = .ok (.iastore, 1) := by decide +kernel
theorem dX12_shore_243 : decode cX12_shore 243 = .ok (.aload_n 0, 1) := by decide +kernel
theorem dX12_shore_244 : decode cX12_shore 244 = .ok (.getfield 36, 3) := by decide +kernel
theorem dX12_shore_247 : decode cX12_shore 247 = .ok (.bipush 13, 2) := by decide +kernel
theorem dX12_shore_249 : decode cX12_shore 249 = .ok (.iload_n 3, 1) := by decide +kernel
theorem dX12_shore_250 : decode cX12_shore 250 = .ok (.iadd, 1) := by decide +kernel
theorem dX12_shore_251 : decode cX12_shore 251 = .ok (.iconst 0, 1) := by decide +kernel
theorem dX12_shore_252 : decode cX12_shore 252 = .ok (.iastore, 1) := by decide +kernel
theorem dX12_shore_253 : decode cX12_shore 253 = .ok (.iinc 3 1, 3) := by decide +kernel
theorem dX12_shore_256 : decode cX12_shore 256 = .ok (.goto (-76), 3) := by decide +kernel
theorem dX12_shore_259 : decode cX12_shore 259 = .ok (.aload_n 0, 1) := by decide +kernel
theorem dX12_shore_260 : decode cX12_shore 260 = .ok (.getfield 36, 3) := by decide +kernel
theorem dX12_shore_263 : decode cX12_shore 263 = .ok (.bipush 12, 2) := by decide +kernel
theorem dX12_shore_265 : decode cX12_shore 265 = .ok (.iconst 0, 1) := by decide +kernel
theorem dX12_shore_266 : decode cX12_shore 266 = .ok (.iastore, 1) := by decide +kernel
theorem dX12_shore_267 : decode cX12_shore 267 = .ok (.aload_n 0, 1) := by decide +kernel
theorem dX12_shore_268 : decode cX12_shore 268 = .ok (.getfield 36, 3) := by decide +kernel
theorem dX12_shore_271 : decode cX12_shore 271 = .ok (.bipush 42, 2) := by decide +kernel
theorem dX12_shore_273 : decode cX12_shore 273 = .ok (.iconst 0, 1) := by decide +kernel
theorem dX12_shore_274 : decode cX12_shore 274 = .ok (.iastore, 1) := by decide +kernel
theorem dX12_shore_275 : decode cX12_shore 275 = .ok (.iconst 0, 1) := by decide +kernel
theorem dX12_shore_276 : decode cX12_shore 276 = .ok (.istore_n 3, 1) := by decide +kernel
theorem dX12_shore_277 : decode cX12_shore 277 = .ok (.iload_n 3, 1) := by decide +kernel
theorem dX12_shore_278 : decode cX12_shore 278 = .ok (.aload_n 0, 1) := by decide +kernel
theorem dX12_shore_279 : decode cX12_shore 279 = .ok (.getfield 126, 3) := by decide +kernel
theorem dX12_shore_282 : decode cX12_shore 282 = .ok (.if_icmp .ge 23, 3) := by decide +kernel
theorem dX12_shore_285 : decode cX12_shore 285 = .ok (.aload_n 0, 1) := by decide +kernel
theorem dX12_shore_286 : decode cX12_shore 286 = .ok (.getfield 36, 3) := by decide +kernel
theorem dX12_shore_289 : decode cX12_shore 289 = .ok (.bipush 25, 2) := by decide +kernel
theorem dX12_shore_291 : decode cX12_shore 291 = .ok (.iconst 2, 1) := by decide +kernel
theorem dX12_shore_292 : decode cX12_shore 292 = .ok (.iload_n 3, 1) := by decide +kernel
theorem dX12_shore_293 : decode cX12_shore 293 = .ok (.imul, 1) := by decide +kernel
theorem dX12_shore_294 : decode cX12_shore 294 = .ok (.iadd, 1) := by decide +kernel
theorem dX12_shore_295 : decode cX12_shore 295 = .ok (.iconst 0, 1) := by decide +kernel
theorem dX12_shore_296 : decode cX12_shore 296 = .ok (.iadd, 1) := by decide +kernel
theorem dX12_shore_297 : decode cX12_shore 297 = .ok (.iconst (-1), 1) := by decide +kernel
theorem dX12_shore_298 : decode cX12_shore 298 = .ok (.iastore, 1) := by decide +kernel
theorem dX12_shore_299 : decode cX12_shore 299 = .ok (.iinc 3 1, 3) := by decide +kernel
theorem dX12_shore_302 : decode cX12_shore 302 = .ok (.goto (-25), 3) := by decide +kernel
theorem dX12_shore_305 : decode cX12_shore 305 = .ok (.aload_n 0, 1) := by decide +kernel
theorem dX12_shore_306 : decode cX12_shore 306 = .ok (.iconst 0, 1) := by decide +kernel
theorem dX12_shore_307 : decode cX12_shore 307 = .ok (.putfield 188, 3) := by decide +kernel
theorem dX12_shore_310 : decode cX12_shore 310 = .ok (.aload_n 0, 1) := by decide +kernel
theorem dX12_shore_311 : decode cX12_shore 311 = .ok (.iconst 0, 1) := by decide +kernel
theorem dX12_shore_312 : decode cX12_shore 312 = .ok (.putfield 191, 3) := by decide +kernel
theorem dX12_shore_315 : decode cX12_shore 315 = .ok (.aload_n 0, 1) := by decide +kernel
theorem dX12_shore_316 : decode cX12_shore 316 = .ok (.dup, 1) := by decide +kernel
theorem dX12_shore_317 : decode cX12_shore 317 = .ok (.getfield 194, 3) := by decide +kernel
theorem dX12_shore_320 : decode cX12_shore 320 = .ok (.iconst 1, 1) := by decide +kernel
theorem dX12_shore_321 : decode cX12_shore 321 = .ok (.iadd, 1) := by decide +kernel
theorem dX12_shore_322 : decode cX12_shore 322 = .ok (.putfield 194, 3) := by decide +kernel
theorem dX12_shore_325 : decode cX12_shore 325 = .ok (.aload_n 0, 1) := by decide +kernel
theorem dX12_shore_326 : decode cX12_shore 326 = .ok (.getfield 13, 3) := by decide +kernel
theorem dX12_shore_329 : decode cX12_shore 329 = .ok (.ireturn, 1) := by decide +kernel
theorem dX12_readsChild_0 : decode cX12_readsChild 0 = .ok (.aload_n 0, 1) := by decide +kernel
theorem dX12_readsChild_1 : decode cX12_readsChild 1 = .ok (.getfield 126, 3) := by decide +kernel
theorem dX12_readsChild_4 : decode cX12_readsChild 4 = .ok (.aload_n 0, 1) := by decide +kernel
theorem dX12_readsChild_5 : decode cX12_readsChild 5 = .ok (.getfield 197, 3) := by decide +kernel
theorem dX12_readsChild_8 : decode cX12_readsChild 8 = .ok (.iadd, 1) := by decide +kernel
theorem dX12_readsChild_9 : decode cX12_readsChild 9 = .ok (.bipush 8, 2) := by decide +kernel
theorem dX12_readsChild_11 : decode cX12_readsChild 11 = .ok (.if_icmp .ne 5, 3) := by decide +kernel
theorem dX12_readsChild_14 : decode cX12_readsChild 14 = .ok (.iconst 0, 1) := by decide +kernel
theorem dX12_readsChild_15 : decode cX12_readsChild 15 = .ok (.ireturn, 1) := by decide +kernel
theorem dX12_readsChild_16 : decode cX12_readsChild 16 = .ok (.iconst 3, 1) := by decide +kernel
theorem dX12_readsChild_17 : decode cX12_readsChild 17 = .ok (.aload_n 0, 1) := by decide +kernel
theorem dX12_readsChild_18 : decode cX12_readsChild 18 = .ok (.getfield 197, 3) := by decide +kernel
theorem dX12_readsChild_21 : decode cX12_readsChild 21 = .ok (.imul, 1) := by decide +kernel
theorem dX12_readsChild_22 : decode cX12_readsChild 22 = .ok (.istore_n 1, 1) := by decide +kernel
theorem dX12_readsChild_23 : decode cX12_readsChild 23 = .ok (.aload_n 0, 1) := by decide +kernel
theorem dX12_readsChild_24 : decode cX12_readsChild 24 = .ok (.getfield 45, 3) := by decide +kernel
theorem dX12_readsChild_27 : decode cX12_readsChild 27 = .ok (.iload_n 1, 1) := by decide +kernel
theorem dX12_readsChild_28 : decode cX12_readsChild 28 = .ok (.aload_n 0, 1) := by decide +kernel
theorem dX12_readsChild_29 : decode cX12_readsChild 29 = .ok (.iconst 2, 1) := by decide +kernel
theorem dX12_readsChild_30 : decode cX12_readsChild 30 = .ok (.iconst 4, 1) := by decide +kernel
theorem dX12_readsChild_31 : decode cX12_readsChild 31 = .ok (.bipush 13, 2) := by decide +kernel
theorem dX12_readsChild_33 : decode cX12_readsChild 33 = .ok (.invokevirtual 200, 3) := by decide +kernel
theorem dX12_readsChild_36 : decode cX12_readsChild 36 = .ok (.iastore, 1) := by decide +kernel
theorem dX12_readsChild_37 : decode cX12_readsChild 37 = .ok (.aload_n 0, 1) := by decide +kernel
theorem dX12_readsChild_38 : decode cX12_readsChild 38 = .ok (.getfield 45, 3) := by decide +kernel
theorem dX12_readsChild_41 : decode cX12_readsChild 41 = .ok (.iload_n 1, 1) := by decide +kernel
theorem dX12_readsChild_42 : decode cX12_readsChild 42 = .ok (.iaload, 1) := by decide +kernel
theorem dX12_readsChild_43 : decode cX12_readsChild 43 = .ok (.ifCond .lt 12, 3) := by decide +kernel
theorem dX12_readsChild_46 : decode cX12_readsChild 46 = .ok (.aload_n 0, 1) := by decide +kernel
theorem dX12_readsChild_47 : decode cX12_readsChild 47 = .ok (.bipush 44, 2) := by decide +kernel
theorem dX12_readsChild_49 : decode cX12_readsChild 49 = .ok (.invokevirtual 184, 3) := by decide +kernel
theorem dX12_readsChild_52 : decode cX12_readsChild 52 = .ok (.ifCond .ne 5, 3) := by decide +kernel
theorem dX12_readsChild_55 : decode cX12_readsChild 55 = .ok (.iconst 0, 1) := by decide +kernel
theorem dX12_readsChild_56 : decode cX12_readsChild 56 = .ok (.ireturn, 1) := by decide +kernel
theorem dX12_readsChild_57 : decode cX12_readsChild 57 = .ok (.aload_n 0, 1) := by decide +kernel
theorem dX12_readsChild_58 : decode cX12_readsChild 58 = .ok (.getfield 45, 3) := by decide +kernel
theorem dX12_readsChild_61 : decode cX12_readsChild 61 = .ok (.iload_n 1, 1) := by decide +kernel
theorem dX12_readsChild_62 : decode cX12_readsChild 62 = .ok (.iconst 1, 1) := by decide +kernel
theorem dX12_readsChild_63 : decode cX12_readsChild 63 = .ok (.iadd, 1) := by decide +kernel
theorem dX12_readsChild_64 : decode cX12_readsChild 64 = .ok (.aload_n 0, 1) := by decide +kernel
theorem dX12_readsChild_65 : decode cX12_readsChild 65 = .ok (.bipush 48, 2) := by decide +kernel
theorem dX12_readsChild_67 : decode cX12_readsChild 67 = .ok (.iconst 1, 1) := by decide +kernel
theorem dX12_readsChild_68 : decode cX12_readsChild 68 = .ok (.bipush 9, 2) := by decide +kernel
theorem dX12_readsChild_70 : decode cX12_readsChild 70 = .ok (.invokevirtual 204, 3) := by decide +kernel
theorem dX12_readsChild_73 : decode cX12_readsChild 73 = .ok (.iastore, 1) := by decide +kernel
theorem dX12_readsChild_74 : decode cX12_readsChild 74 = .ok (.aload_n 0, 1) := by decide +kernel
theorem dX12_readsChild_75 : decode cX12_readsChild 75 = .ok (.getfield 45, 3) := by decide +kernel
theorem dX12_readsChild_78 : decode cX12_readsChild 78 = .ok (.iload_n 1, 1) := by decide +kernel
theorem dX12_readsChild_79 : decode cX12_readsChild 79 = .ok (.iconst 1, 1) := by decide +kernel
theorem dX12_readsChild_80 : decode cX12_readsChild 80 = .ok (.iadd, 1) := by decide +kernel
theorem dX12_readsChild_81 : decode cX12_readsChild 81 = .ok (.iaload, 1) := by decide +kernel
theorem dX12_readsChild_82 : decode cX12_readsChild 82 = .ok (.ifCond .ge 5, 3) := by decide +kernel
theorem dX12_readsChild_85 : decode cX12_readsChild 85 = .ok (.iconst 0, 1) := by decide +kernel
theorem dX12_readsChild_86 : decode cX12_readsChild 86 = .ok (.ireturn, 1) := by decide +kernel
theorem dX12_readsChild_87 : decode cX12_readsChild 87 = .ok (.aload_n 0, 1) := by decide +kernel
theorem dX12_readsChild_88 : decode cX12_readsChild 88 = .ok (.bipush 45, 2) := by decide +kernel
theorem dX12_readsChild_90 : decode cX12_readsChild 90 = .ok (.invokevirtual 184, 3) := by decide +kernel
theorem dX12_readsChild_93 : decode cX12_readsChild 93 = .ok (.istore_n 2, 1) := by decide +kernel
theorem dX12_readsChild_94 : decode cX12_readsChild 94 = .ok (.aload_n 0, 1) := by decide +kernel
theorem dX12_readsChild_95 : decode cX12_readsChild 95 = .ok (.getfield 45, 3) := by decide +kernel
theorem dX12_readsChild_98 : decode cX12_readsChild 98 = .ok (.iload_n 1, 1) := by decide +kernel
theorem dX12_readsChild_99 : decode cX12_readsChild 99 = .ok (.iconst 2, 1) := by decide +kernel
theorem dX12_readsChild_100 : decode cX12_readsChild 100 = .ok (.iadd, 1) := by decide +kernel
theorem dX12_readsChild_101 : decode cX12_readsChild 101 = .ok (.iload_n 2, 1) := by decide +kernel
theorem dX12_readsChild_102 : decode cX12_readsChild 102 = .ok (.ifCond .eq 7, 3) := by decide +kernel
theorem dX12_readsChild_105 : decode cX12_readsChild 105 = .ok (.iconst (-1), 1) := by decide +kernel
theorem dX12_readsChild_106 : decode cX12_readsChild 106 = .ok (.goto 21, 3) := by decide +kernel
theorem dX12_readsChild_109 : decode cX12_readsChild 109 = .ok (.aload_n 0, 1) := by decide +kernel
theorem dX12_readsChild_110 : decode cX12_readsChild 110 = .ok (.bipush 97, 2) := by decide +kernel
theorem dX12_readsChild_112 : decode cX12_readsChild 112 = .ok (.iconst 0, 1) := by decide +kernel
theorem dX12_readsChild_113 : decode cX12_readsChild 113 = .ok (.aload_n 0, 1) := by decide +kernel
theorem dX12_readsChild_114 : decode cX12_readsChild 114 = .ok (.getfield 126, 3) := by decide +kernel
theorem dX12_readsChild_117 : decode cX12_readsChild 117 = .ok (.aload_n 0, 1) := by decide +kernel
theorem dX12_readsChild_118 : decode cX12_readsChild 118 = .ok (.getfield 197, 3) := by decide +kernel
theorem dX12_readsChild_121 : decode cX12_readsChild 121 = .ok (.iadd, 1) := by decide +kernel
theorem dX12_readsChild_122 : decode cX12_readsChild 122 = .ok (.iconst 1, 1) := by decide +kernel
theorem dX12_readsChild_123 : decode cX12_readsChild 123 = .ok (.isub, 1) := by decide +kernel
theorem dX12_readsChild_124 : decode cX12_readsChild 124 = .ok (.invokevirtual 204, 3) := by decide +kernel
theorem dX12_readsChild_127 : decode cX12_readsChild 127 = .ok (.iastore, 1) := by decide +kernel
theorem dX12_readsChild_128 : decode cX12_readsChild 128 = .ok (.aload_n 0, 1) := by decide +kernel
theorem dX12_readsChild_129 : decode cX12_readsChild 129 = .ok (.dup, 1) := by decide +kernel
theorem dX12_readsChild_130 : decode cX12_readsChild 130 = .ok (.getfield 197, 3) := by decide +kernel
theorem dX12_readsChild_133 : decode cX12_readsChild 133 = .ok (.iconst 1, 1) := by decide +kernel
theorem dX12_readsChild_134 : decode cX12_readsChild 134 = .ok (.iadd, 1) := by decide +kernel
theorem dX12_readsChild_135 : decode cX12_readsChild 135 = .ok (.putfield 197, 3) := by decide +kernel
theorem dX12_readsChild_138 : decode cX12_readsChild 138 = .ok (.iload_n 2, 1) := by decide +kernel
theorem dX12_readsChild_139 : decode cX12_readsChild 139 = .ok (.ifCond .ne 14, 3) := by decide +kernel
theorem dX12_readsChild_142 : decode cX12_readsChild 142 = .ok (.aload_n 0, 1) := by decide +kernel
theorem dX12_readsChild_143 : decode cX12_readsChild 143 = .ok (.getfield 45, 3) := by decide +kernel
theorem dX12_readsChild_146 : decode cX12_readsChild 146 = .ok (.iload_n 1, 1) := by decide +kernel
theorem dX12_readsChild_147 : decode cX12_readsChild 147 = .ok (.iconst 2, 1) := by decide +kernel
theorem dX12_readsChild_148 : decode cX12_readsChild 148 = .ok (.iadd, 1) := by decide +kernel
theorem dX12_readsChild_149 : decode cX12_readsChild 149 = .ok (.iaload, 1) := by decide +kernel
theorem dX12_readsChild_150 : decode cX12_readsChild 150 = .ok (.ifCond .lt 7, 3) := by decide +kernel
theorem dX12_readsChild_153 : decode cX12_readsChild 153 = .ok (.iconst 1, 1) := by decide +kernel
theorem dX12_readsChild_154 : decode cX12_readsChild 154 = .ok (.goto 4, 3) := by decide +kernel
theorem dX12_readsChild_157 : decode cX12_readsChild 157 = .ok (.iconst 0, 1) := by decide +kernel
theorem dX12_readsChild_158 : decode cX12_readsChild 158 = .ok (.ireturn, 1) := by decide +kernel
theorem dX12_children_0 : decode cX12_children 0 = .ok (.aload_n 0, 1) := by decide +kernel
theorem dX12_children_1 : decode cX12_children 1 = .ok (.iconst 0, 1) := by decide +kernel
theorem dX12_children_2 : decode cX12_children 2 = .ok (.putfield 112, 3) := by decide +kernel
theorem dX12_children_5 : decode cX12_children 5 = .ok (.aload_n 0, 1) := by decide +kernel
theorem dX12_children_6 : decode cX12_children 6 = .ok (.bipush 47, 2) := by decide +kernel
theorem dX12_children_8 : decode cX12_children 8 = .ok (.invokevirtual 181, 3) := by decide +kernel
theorem dX12_children_11 : decode cX12_children 11 = .ok (.istore_n 1, 1) := by decide +kernel
theorem dX12_children_12 : decode cX12_children 12 = .ok (.aload_n 0, 1) := by decide +kernel
theorem dX12_children_13 : decode cX12_children 13 = .ok (.iconst 0, 1) := by decide +kernel
theorem dX12_children_14 : decode cX12_children 14 = .ok (.putfield 197, 3) := by decide +kernel
theorem dX12_children_17 : decode cX12_children 17 = .ok (.iconst 1, 1) := by decide +kernel
theorem dX12_children_18 : decode cX12_children 18 = .ok (.istore_n 2, 1) := by decide +kernel
theorem dX12_children_19 : decode cX12_children 19 = .ok (.iload_n 1, 1) := by decide +kernel
theorem dX12_children_20 : decode cX12_children 20 = .ok (.ifCond .le 7, 3) := by decide +kernel
theorem dX12_children_23 : decode cX12_children 23 = .ok (.iconst 1, 1) := by decide +kernel
theorem dX12_children_24 : decode cX12_children 24 = .ok (.goto 4, 3) := by decide +kernel
theorem dX12_children_27 : decode cX12_children 27 = .ok (.iconst 0, 1) := by decide +kernel
theorem dX12_children_28 : decode cX12_children 28 = .ok (.istore_n 3, 1) := by decide +kernel
theorem dX12_children_29 : decode cX12_children 29 = .ok (.iload_n 3, 1) := by decide +kernel
theorem dX12_children_30 : decode cX12_children 30 = .ok (.ifCond .eq 30, 3) := by decide +kernel
theorem dX12_children_33 : decode cX12_children 33 = .ok (.aload_n 0, 1) := by decide +kernel
theorem dX12_children_34 : decode cX12_children 34 = .ok (.invokevirtual 207, 3) := by decide +kernel
theorem dX12_children_37 : decode cX12_children 37 = .ok (.istore_n 2, 1) := by decide +kernel
theorem dX12_children_38 : decode cX12_children 38 = .ok (.iload_n 2, 1) := by decide +kernel
theorem dX12_children_39 : decode cX12_children 39 = .ok (.ifCond .eq 16, 3) := by decide +kernel
theorem dX12_children_42 : decode cX12_children 42 = .ok (.aload_n 0, 1) := by decide +kernel
theorem dX12_children_43 : decode cX12_children 43 = .ok (.bipush 59, 2) := by decide +kernel
theorem dX12_children_45 : decode cX12_children 45 = .ok (.invokevirtual 184, 3) := by decide +kernel
theorem dX12_children_48 : decode cX12_children 48 = .ok (.ifCond .eq 7, 3) := by decide +kernel
theorem dX12_children_51 : decode cX12_children 51 = .ok (.iconst 1, 1) := by decide +kernel
theorem dX12_children_52 : decode cX12_children 52 = .ok (.goto 4, 3) := by decide +kernel
theorem dX12_children_55 : decode cX12_children 55 = .ok (.iconst 0, 1) := by decide +kernel
theorem dX12_children_56 : decode cX12_children 56 = .ok (.istore_n 3, 1) := by decide +kernel
theorem dX12_children_57 : decode cX12_children 57 = .ok (.goto (-28), 3) := by decide +kernel
theorem dX12_children_60 : decode cX12_children 60 = .ok (.aload_n 0, 1) := by decide +kernel
theorem dX12_children_61 : decode cX12_children 61 = .ok (.iload_n 1, 1) := by decide +kernel
theorem dX12_children_62 : decode cX12_children 62 = .ok (.bipush 47, 2) := by decide +kernel
theorem dX12_children_64 : decode cX12_children 64 = .ok (.iload_n 2, 1) := by decide +kernel
theorem dX12_children_65 : decode cX12_children 65 = .ok (.invokevirtual 210, 3) := by decide +kernel
theorem dX12_children_68 : decode cX12_children 68 = .ok (.istore 4, 2) := by decide +kernel
theorem dX12_children_70 : decode cX12_children 70 = .ok (.iload 4, 2) := by decide +kernel
theorem dX12_children_72 : decode cX12_children 72 = .ok (.ifCond .ge 6, 3) := by decide +kernel
theorem dX12_children_75 : decode cX12_children 75 = .ok (.iload 4, 2) := by decide +kernel
theorem dX12_children_77 : decode cX12_children 77 = .ok (.ireturn, 1) := by decide +kernel
theorem dX12_children_78 : decode cX12_children 78 = .ok (.iconst 0, 1) := by decide +kernel
theorem dX12_children_79 : decode cX12_children 79 = .ok (.istore 5, 2) := by decide +kernel
theorem dX12_children_81 : decode cX12_children 81 = .ok (.iload 5, 2) := by decide +kernel
theorem dX12_children_83 : decode cX12_children 83 = .ok (.aload_n 0, 1) := by decide +kernel
theorem dX12_children_84 : decode cX12_children 84 = .ok (.getfield 197, 3) := by decide +kernel
theorem dX12_children_87 : decode cX12_children 87 = .ok (.if_icmp .ge 111, 3) := by decide +kernel
theorem dX12_children_90 : decode cX12_children 90 = .ok (.aload_n 0, 1) := by decide +kernel
theorem dX12_children_91 : decode cX12_children 91 = .ok (.getfield 24, 3) := by decide +kernel
theorem dX12_children_94 : decode cX12_children 94 = .ok (.aload_n 0, 1) := by decide +kernel
theorem dX12_children_95 : decode cX12_children 95 = .ok (.getfield 126, 3) := by decide +kernel
theorem dX12_children_98 : decode cX12_children 98 = .ok (.aload_n 0, 1) := by decide +kernel
theorem dX12_children_99 : decode cX12_children 99 = .ok (.getfield 45, 3) := by decide +kernel
theorem dX12_children_102 : decode cX12_children 102 = .ok (.iconst 3, 1) := by decide +kernel
theorem dX12_children_103 : decode cX12_children 103 = .ok (.iload 5, 2) := by decide +kernel
theorem dX12_children_105 : decode cX12_children 105 = .ok (.imul, 1) := by decide +kernel
theorem dX12_children_106 : decode cX12_children 106 = .ok (.iaload, 1) := by decide +kernel
theorem dX12_children_107 : decode cX12_children 107 = .ok (.iastore, 1) := by decide +kernel
theorem dX12_children_108 : decode cX12_children 108 = .ok (.aload_n 0, 1) := by decide +kernel
theorem dX12_children_109 : decode cX12_children 109 = .ok (.getfield 27, 3) := by decide +kernel
theorem dX12_children_112 : decode cX12_children 112 = .ok (.aload_n 0, 1) := by decide +kernel
theorem dX12_children_113 : decode cX12_children 113 = .ok (.getfield 126, 3) := by decide +kernel
theorem dX12_children_116 : decode cX12_children 116 = .ok (.aload_n 0, 1) := by decide +kernel
theorem dX12_children_117 : decode cX12_children 117 = .ok (.getfield 45, 3) := by decide +kernel
theorem dX12_children_120 : decode cX12_children 120 = .ok (.iconst 3, 1) := by decide +kernel
theorem dX12_children_121 : decode cX12_children 121 = .ok (.iload 5, 2) := by decide +kernel
theorem dX12_children_123 : decode cX12_children 123 = .ok (.imul, 1) := by decide +kernel
theorem dX12_children_124 : decode cX12_children 124 = .ok (.iconst 1, 1) := by decide +kernel
theorem dX12_children_125 : decode cX12_children 125 = .ok (.iadd, 1) := by decide +kernel
theorem dX12_children_126 : decode cX12_children 126 = .ok (.iaload, 1) := by decide +kernel
theorem dX12_children_127 : decode cX12_children 127 = .ok (.iastore, 1) := by decide +kernel
theorem dX12_children_128 : decode cX12_children 128 = .ok (.aload_n 0, 1) := by decide +kernel
theorem dX12_children_129 : decode cX12_children 129 = .ok (.getfield 30, 3) := by decide +kernel
theorem dX12_children_132 : decode cX12_children 132 = .ok (.aload_n 0, 1) := by decide +kernel
theorem dX12_children_133 : decode cX12_children 133 = .ok (.getfield 126, 3) := by decide +kernel
theorem dX12_children_136 : decode cX12_children 136 = .ok (.aload_n 0, 1) := by decide +kernel
theorem dX12_children_137 : decode cX12_children 137 = .ok (.getfield 45, 3) := by decide +kernel
theorem dX12_children_140 : decode cX12_children 140 = .ok (.iconst 3, 1) := by decide +kernel
theorem dX12_children_141 : decode cX12_children 141 = .ok (.iload 5, 2) := by decide +kernel
theorem dX12_children_143 : decode cX12_children 143 = .ok (.imul, 1) := by decide +kernel
theorem dX12_children_144 : decode cX12_children 144 = .ok (.iconst 2, 1) := by decide +kernel
theorem dX12_children_145 : decode cX12_children 145 = .ok (.iadd, 1) := by decide +kernel
theorem dX12_children_146 : decode cX12_children 146 = .ok (.iaload, 1) := by decide +kernel
theorem dX12_children_147 : decode cX12_children 147 = .ok (.iastore, 1) := by decide +kernel
theorem dX12_children_148 : decode cX12_children 148 = .ok (.aload_n 0, 1) := by decide +kernel
theorem dX12_children_149 : decode cX12_children 149 = .ok (.getfield 36, 3) := by decide +kernel
theorem dX12_children_152 : decode cX12_children 152 = .ok (.bipush 25, 2) := by decide +kernel
theorem dX12_children_154 : decode cX12_children 154 = .ok (.iconst 2, 1) := by decide +kernel
theorem dX12_children_155 : decode cX12_children 155 = .ok (.aload_n 0, 1) := by decide +kernel
theorem dX12_children_156 : decode cX12_children 156 = .ok (.getfield 126, 3) := by decide +kernel
theorem dX12_children_159 : decode cX12_children 159 = .ok (.imul, 1) := by decide +kernel
theorem dX12_children_160 : decode cX12_children 160 = .ok (.iadd, 1) := by decide +kernel
theorem dX12_children_161 : decode cX12_children 161 = .ok (.iconst 0, 1) := by decide +kernel
theorem dX12_children_162 : decode cX12_children 162 = .ok (.iadd, 1) := by decide +kernel
theorem dX12_children_163 : decode cX12_children 163 = .ok (.iconst (-1), 1) := by decide +kernel
theorem dX12_children_164 : decode cX12_children 164 = .ok (.iastore, 1) := by decide +kernel
theorem dX12_children_165 : decode cX12_children 165 = .ok (.aload_n 0, 1) := by decide +kernel
theorem dX12_children_166 : decode cX12_children 166 = .ok (.getfield 36, 3) := by decide +kernel
theorem dX12_children_169 : decode cX12_children 169 = .ok (.bipush 25, 2) := by decide +kernel
theorem dX12_children_171 : decode cX12_children 171 = .ok (.iconst 2, 1) := by decide +kernel
theorem dX12_children_172 : decode cX12_children 172 = .ok (.aload_n 0, 1) := by decide +kernel
theorem dX12_children_173 : decode cX12_children 173 = .ok (.getfield 126, 3) := by decide +kernel
theorem dX12_children_176 : decode cX12_children 176 = .ok (.imul, 1) := by decide +kernel
theorem dX12_children_177 : decode cX12_children 177 = .ok (.iadd, 1) := by decide +kernel
theorem dX12_children_178 : decode cX12_children 178 = .ok (.iconst 1, 1) := by decide +kernel
theorem dX12_children_179 : decode cX12_children 179 = .ok (.iadd, 1) := by decide +kernel
theorem dX12_children_180 : decode cX12_children 180 = .ok (.iconst 5, 1) := by decide +kernel
theorem dX12_children_181 : decode cX12_children 181 = .ok (.iastore, 1) := by decide +kernel
theorem dX12_children_182 : decode cX12_children 182 = .ok (.aload_n 0, 1) := by decide +kernel
theorem dX12_children_183 : decode cX12_children 183 = .ok (.dup, 1) := by decide +kernel
theorem dX12_children_184 : decode cX12_children 184 = .ok (.getfield 126, 3) := by decide +kernel
theorem dX12_children_187 : decode cX12_children 187 = .ok (.iconst 1, 1) := by decide +kernel
theorem dX12_children_188 : decode cX12_children 188 = .ok (.iadd, 1) := by decide +kernel
theorem dX12_children_189 : decode cX12_children 189 = .ok (.putfield 126, 3) := by decide +kernel
theorem dX12_children_192 : decode cX12_children 192 = .ok (.iinc 5 1, 3) := by decide +kernel
theorem dX12_children_195 : decode cX12_children 195 = .ok (.goto (-114), 3) := by decide +kernel
theorem dX12_children_198 : decode cX12_children 198 = .ok (.aload_n 0, 1) := by decide +kernel
theorem dX12_children_199 : decode cX12_children 199 = .ok (.getfield 197, 3) := by decide +kernel
theorem dX12_children_202 : decode cX12_children 202 = .ok (.ifCond .le 18, 3) := by decide +kernel
theorem dX12_children_205 : decode cX12_children 205 = .ok (.aload_n 0, 1) := by decide +kernel
theorem dX12_children_206 : decode cX12_children 206 = .ok (.iconst 0, 1) := by decide +kernel
theorem dX12_children_207 : decode cX12_children 207 = .ok (.putfield 191, 3) := by decide +kernel
theorem dX12_children_210 : decode cX12_children 210 = .ok (.aload_n 0, 1) := by decide +kernel
theorem dX12_children_211 : decode cX12_children 211 = .ok (.dup, 1) := by decide +kernel
theorem dX12_children_212 : decode cX12_children 212 = .ok (.getfield 194, 3) := by decide +kernel
theorem dX12_children_215 : decode cX12_children 215 = .ok (.iconst 1, 1) := by decide +kernel
theorem dX12_children_216 : decode cX12_children 216 = .ok (.iadd, 1) := by decide +kernel
theorem dX12_children_217 : decode cX12_children 217 = .ok (.putfield 194, 3) := by decide +kernel
theorem dX12_children_220 : decode cX12_children 220 = .ok (.aload_n 0, 1) := by decide +kernel
theorem dX12_children_221 : decode cX12_children 221 = .ok (.getfield 197, 3) := by decide +kernel
theorem dX12_children_224 : decode cX12_children 224 = .ok (.ireturn, 1) := by decide +kernel
theorem dX12_codes_0 : decode cX12_codes 0 = .ok (.aload_n 0, 1) := by decide +kernel
theorem dX12_codes_1 : decode cX12_codes 1 = .ok (.getfield 51, 3) := by decide +kernel
theorem dX12_codes_4 : decode cX12_codes 4 = .ok (.aload_n 0, 1) := by decide +kernel
theorem dX12_codes_5 : decode cX12_codes 5 = .ok (.getfield 214, 3) := by decide +kernel
theorem dX12_codes_8 : decode cX12_codes 8 = .ok (.iload_n 1, 1) := by decide +kernel
theorem dX12_codes_9 : decode cX12_codes 9 = .ok (.iastore, 1) := by decide +kernel
theorem dX12_codes_10 : decode cX12_codes 10 = .ok (.aload_n 0, 1) := by decide +kernel
theorem dX12_codes_11 : decode cX12_codes 11 = .ok (.dup, 1) := by decide +kernel
theorem dX12_codes_12 : decode cX12_codes 12 = .ok (.getfield 214, 3) := by decide +kernel
theorem dX12_codes_15 : decode cX12_codes 15 = .ok (.iconst 1, 1) := by decide +kernel
theorem dX12_codes_16 : decode cX12_codes 16 = .ok (.iadd, 1) := by decide +kernel
theorem dX12_codes_17 : decode cX12_codes 17 = .ok (.putfield 214, 3) := by decide +kernel
theorem dX12_codes_20 : decode cX12_codes 20 = .ok (.return_, 1) := by decide +kernel
theorem dX12_readsThing_0 : decode cX12_readsThing 0 = .ok (.aload_n 0, 1) := by decide +kernel
theorem dX12_readsThing_1 : decode cX12_readsThing 1 = .ok (.bipush 45, 2) := by decide +kernel
theorem dX12_readsThing_3 : decode cX12_readsThing 3 = .ok (.invokevirtual 184, 3) := by decide +kernel
theorem dX12_readsThing_6 : decode cX12_readsThing 6 = .ok (.ifCond .eq 17, 3) := by decide +kernel
theorem dX12_readsThing_9 : decode cX12_readsThing 9 = .ok (.aload_n 0, 1) := by decide +kernel
theorem dX12_readsThing_10 : decode cX12_readsThing 10 = .ok (.invokevirtual 217, 3) := by decide +kernel
theorem dX12_readsThing_13 : decode cX12_readsThing 13 = .ok (.istore_n 1, 1) := by decide +kernel
theorem dX12_readsThing_14 : decode cX12_readsThing 14 = .ok (.aload_n 0, 1) := by decide +kernel
theorem dX12_readsThing_15 : decode cX12_readsThing 15 = .ok (.sipush 3000, 3) := by decide +kernel
theorem dX12_readsThing_18 : decode cX12_readsThing 18 = .ok (.invokevirtual 220, 3) := by decide +kernel
theorem dX12_readsThing_21 : decode cX12_readsThing 21 = .ok (.iload_n 1, 1) := by decide +kernel
theorem dX12_readsThing_22 : decode cX12_readsThing 22 = .ok (.ireturn, 1) := by decide +kernel
theorem dX12_readsThing_23 : decode cX12_readsThing 23 = .ok (.aload_n 0, 1) := by decide +kernel
theorem dX12_readsThing_24 : decode cX12_readsThing 24 = .ok (.invokevirtual 173, 3) := by decide +kernel
theorem dX12_readsThing_27 : decode cX12_readsThing 27 = .ok (.ifCond .eq 14, 3) := by decide +kernel
theorem dX12_readsThing_30 : decode cX12_readsThing 30 = .ok (.aload_n 0, 1) := by decide +kernel
theorem dX12_readsThing_31 : decode cX12_readsThing 31 = .ok (.aload_n 0, 1) := by decide +kernel
theorem dX12_readsThing_32 : decode cX12_readsThing 32 = .ok (.iconst 3, 1) := by decide +kernel
theorem dX12_readsThing_33 : decode cX12_readsThing 33 = .ok (.invokevirtual 177, 3) := by decide +kernel
theorem dX12_readsThing_36 : decode cX12_readsThing 36 = .ok (.invokevirtual 220, 3) := by decide +kernel
theorem dX12_readsThing_39 : decode cX12_readsThing 39 = .ok (.iconst 1, 1) := by decide +kernel
theorem dX12_readsThing_40 : decode cX12_readsThing 40 = .ok (.ireturn, 1) := by decide +kernel
theorem dX12_readsThing_41 : decode cX12_readsThing 41 = .ok (.aload_n 0, 1) := by decide +kernel
theorem dX12_readsThing_42 : decode cX12_readsThing 42 = .ok (.ldc 224, 2) := by decide +kernel
theorem dX12_readsThing_44 : decode cX12_readsThing 44 = .ok (.invokevirtual 226, 3) := by decide +kernel
theorem dX12_readsThing_47 : decode cX12_readsThing 47 = .ok (.istore_n 1, 1) := by decide +kernel
theorem dX12_readsThing_48 : decode cX12_readsThing 48 = .ok (.iload_n 1, 1) := by decide +kernel
theorem dX12_readsThing_49 : decode cX12_readsThing 49 = .ok (.ifCond .lt 14, 3) := by decide +kernel
theorem dX12_readsThing_52 : decode cX12_readsThing 52 = .ok (.aload_n 0, 1) := by decide +kernel
theorem dX12_readsThing_53 : decode cX12_readsThing 53 = .ok (.sipush 1000, 3) := by decide +kernel
theorem dX12_readsThing_56 : decode cX12_readsThing 56 = .ok (.iload_n 1, 1) := by decide +kernel
theorem dX12_readsThing_57 : decode cX12_readsThing 57 = .ok (.iadd, 1) := by decide +kernel
theorem dX12_readsThing_58 : decode cX12_readsThing 58 = .ok (.invokevirtual 220, 3) := by decide +kernel
theorem dX12_readsThing_61 : decode cX12_readsThing 61 = .ok (.iconst 1, 1) := by decide +kernel
theorem dX12_readsThing_62 : decode cX12_readsThing 62 = .ok (.ireturn, 1) := by decide +kernel
theorem dX12_readsThing_63 : decode cX12_readsThing 63 = .ok (.aload_n 0, 1) := by decide +kernel
theorem dX12_readsThing_64 : decode cX12_readsThing 64 = .ok (.getfield 139, 3) := by decide +kernel
theorem dX12_readsThing_67 : decode cX12_readsThing 67 = .ok (.iconst 4, 1) := by decide +kernel
theorem dX12_readsThing_68 : decode cX12_readsThing 68 = .ok (.if_icmp .eq 12, 3) := by decide +kernel
theorem dX12_readsThing_71 : decode cX12_readsThing 71 = .ok (.aload_n 0, 1) := by decide +kernel
theorem dX12_readsThing_72 : decode cX12_readsThing 72 = .ok (.bipush 40, 2) := by decide +kernel
theorem dX12_readsThing_74 : decode cX12_readsThing 74 = .ok (.invokevirtual 184, 3) := by decide +kernel
theorem dX12_readsThing_77 : decode cX12_readsThing 77 = .ok (.ifCond .ne 5, 3) := by decide +kernel
theorem dX12_readsThing_80 : decode cX12_readsThing 80 = .ok (.iconst 0, 1) := by decide +kernel
theorem dX12_readsThing_81 : decode cX12_readsThing 81 = .ok (.ireturn, 1) := by decide +kernel
theorem dX12_readsThing_82 : decode cX12_readsThing 82 = .ok (.aload_n 0, 1) := by decide +kernel
theorem dX12_readsThing_83 : decode cX12_readsThing 83 = .ok (.dup, 1) := by decide +kernel
theorem dX12_readsThing_84 : decode cX12_readsThing 84 = .ok (.getfield 139, 3) := by decide +kernel
theorem dX12_readsThing_87 : decode cX12_readsThing 87 = .ok (.iconst 1, 1) := by decide +kernel
theorem dX12_readsThing_88 : decode cX12_readsThing 88 = .ok (.iadd, 1) := by decide +kernel
theorem dX12_readsThing_89 : decode cX12_readsThing 89 = .ok (.putfield 139, 3) := by decide +kernel
theorem dX12_readsThing_92 : decode cX12_readsThing 92 = .ok (.aload_n 0, 1) := by decide +kernel
theorem dX12_readsThing_93 : decode cX12_readsThing 93 = .ok (.iconst 0, 1) := by decide +kernel
theorem dX12_readsThing_94 : decode cX12_readsThing 94 = .ok (.invokevirtual 229, 3) := by decide +kernel
theorem dX12_readsThing_97 : decode cX12_readsThing 97 = .ok (.ifCond .eq 12, 3) := by decide +kernel
theorem dX12_readsThing_100 : decode cX12_readsThing 100 = .ok (.aload_n 0, 1) := by decide +kernel
theorem dX12_readsThing_101 : decode cX12_readsThing 101 = .ok (.bipush 41, 2) := by decide +kernel
theorem dX12_readsThing_103 : decode cX12_readsThing 103 = .ok (.invokevirtual 184, 3) := by decide +kernel
theorem dX12_readsThing_106 : decode cX12_readsThing 106 = .ok (.ifCond .ne 5, 3) := by decide +kernel
theorem dX12_readsThing_109 : decode cX12_readsThing 109 = .ok (.iconst 0, 1) := by decide +kernel
theorem dX12_readsThing_110 : decode cX12_readsThing 110 = .ok (.ireturn, 1) := by decide +kernel
theorem dX12_readsThing_111 : decode cX12_readsThing 111 = .ok (.aload_n 0, 1) := by decide +kernel
theorem dX12_readsThing_112 : decode cX12_readsThing 112 = .ok (.dup, 1) := by decide +kernel
theorem dX12_readsThing_113 : decode cX12_readsThing 113 = .ok (.getfield 139, 3) := by decide +kernel
theorem dX12_readsThing_116 : decode cX12_readsThing 116 = .ok (.iconst 1, 1) := by decide +kernel
theorem dX12_readsThing_117 : decode cX12_readsThing 117 = .ok (.isub, 1) := by decide +kernel
theorem dX12_readsThing_118 : decode cX12_readsThing 118 = .ok (.putfield 139, 3) := by decide +kernel
theorem dX12_readsThing_121 : decode cX12_readsThing 121 = .ok (.iconst 1, 1) := by decide +kernel
theorem dX12_readsThing_122 : decode cX12_readsThing 122 = .ok (.ireturn, 1) := by decide +kernel
theorem dX12_readsRank_0 : decode cX12_readsRank 0 = .ok (.iload_n 1, 1) := by decide +kernel
theorem dX12_readsRank_1 : decode cX12_readsRank 1 = .ok (.iconst 3, 1) := by decide +kernel
theorem dX12_readsRank_2 : decode cX12_readsRank 2 = .ok (.if_icmp .ne 8, 3) := by decide +kernel
theorem dX12_readsRank_5 : decode cX12_readsRank 5 = .ok (.aload_n 0, 1) := by decide +kernel
theorem dX12_readsRank_6 : decode cX12_readsRank 6 = .ok (.invokevirtual 217, 3) := by decide +kernel
theorem dX12_readsRank_9 : decode cX12_readsRank 9 = .ok (.ireturn, 1) := by decide +kernel
theorem dX12_readsRank_10 : decode cX12_readsRank 10 = .ok (.aload_n 0, 1) := by decide +kernel
theorem dX12_readsRank_11 : decode cX12_readsRank 11 = .ok (.iload_n 1, 1) := by decide +kernel
theorem dX12_readsRank_12 : decode cX12_readsRank 12 = .ok (.iconst 1, 1) := by decide +kernel
theorem dX12_readsRank_13 : decode cX12_readsRank 13 = .ok (.iadd, 1) := by decide +kernel
theorem dX12_readsRank_14 : decode cX12_readsRank 14 = .ok (.invokevirtual 229, 3) := by decide +kernel
theorem dX12_readsRank_17 : decode cX12_readsRank 17 = .ok (.ifCond .ne 5, 3) := by decide +kernel
theorem dX12_readsRank_20 : decode cX12_readsRank 20 = .ok (.iconst 0, 1) := by decide +kernel
theorem dX12_readsRank_21 : decode cX12_readsRank 21 = .ok (.ireturn, 1) := by decide +kernel
theorem dX12_readsRank_22 : decode cX12_readsRank 22 = .ok (.iconst 1, 1) := by decide +kernel
theorem dX12_readsRank_23 : decode cX12_readsRank 23 = .ok (.istore_n 2, 1) := by decide +kernel
theorem dX12_readsRank_24 : decode cX12_readsRank 24 = .ok (.iload_n 2, 1) := by decide +kernel
theorem dX12_readsRank_25 : decode cX12_readsRank 25 = .ok (.ifCond .eq 88, 3) := by decide +kernel
theorem dX12_readsRank_28 : decode cX12_readsRank 28 = .ok (.aload_n 0, 1) := by decide +kernel
theorem dX12_readsRank_29 : decode cX12_readsRank 29 = .ok (.iload_n 1, 1) := by decide +kernel
theorem dX12_readsRank_30 : decode cX12_readsRank 30 = .ok (.ifCond .ne 8, 3) := by decide +kernel
theorem dX12_readsRank_33 : decode cX12_readsRank 33 = .ok (.ldc 232, 2) := by decide +kernel
theorem dX12_readsRank_35 : decode cX12_readsRank 35 = .ok (.goto 15, 3) := by decide +kernel
theorem dX12_readsRank_38 : decode cX12_readsRank 38 = .ok (.iload_n 1, 1) := by decide +kernel
theorem dX12_readsRank_39 : decode cX12_readsRank 39 = .ok (.iconst 1, 1) := by decide +kernel
theorem dX12_readsRank_40 : decode cX12_readsRank 40 = .ok (.if_icmp .ne 8, 3) := by decide +kernel
theorem dX12_readsRank_43 : decode cX12_readsRank 43 = .ok (.ldc 234, 2) := by decide +kernel
theorem dX12_readsRank_45 : decode cX12_readsRank 45 = .ok (.goto 5, 3) := by decide +kernel
theorem dX12_readsRank_48 : decode cX12_readsRank 48 = .ok (.ldc 236, 2) := by decide +kernel
theorem dX12_readsRank_50 : decode cX12_readsRank 50 = .ok (.invokevirtual 226, 3) := by decide +kernel
theorem dX12_readsRank_53 : decode cX12_readsRank 53 = .ok (.istore_n 3, 1) := by decide +kernel
theorem dX12_readsRank_54 : decode cX12_readsRank 54 = .ok (.iload_n 3, 1) := by decide +kernel
theorem dX12_readsRank_55 : decode cX12_readsRank 55 = .ok (.ifCond .ge 5, 3) := by decide +kernel
theorem dX12_readsRank_58 : decode cX12_readsRank 58 = .ok (.iconst 1, 1) := by decide +kernel
theorem dX12_readsRank_59 : decode cX12_readsRank 59 = .ok (.ireturn, 1) := by decide +kernel
theorem dX12_readsRank_60 : decode cX12_readsRank 60 = .ok (.aload_n 0, 1) := by decide +kernel
theorem dX12_readsRank_61 : decode cX12_readsRank 61 = .ok (.iload_n 1, 1) := by decide +kernel
theorem dX12_readsRank_62 : decode cX12_readsRank 62 = .ok (.iconst 1, 1) := by decide +kernel
theorem dX12_readsRank_63 : decode cX12_readsRank 63 = .ok (.iadd, 1) := by decide +kernel
theorem dX12_readsRank_64 : decode cX12_readsRank 64 = .ok (.invokevirtual 229, 3) := by decide +kernel
theorem dX12_readsRank_67 : decode cX12_readsRank 67 = .ok (.ifCond .ne 5, 3) := by decide +kernel
theorem dX12_readsRank_70 : decode cX12_readsRank 70 = .ok (.iconst 0, 1) := by decide +kernel
theorem dX12_readsRank_71 : decode cX12_readsRank 71 = .ok (.ireturn, 1) := by decide +kernel
theorem dX12_readsRank_72 : decode cX12_readsRank 72 = .ok (.aload_n 0, 1) := by decide +kernel
theorem dX12_readsRank_73 : decode cX12_readsRank 73 = .ok (.sipush 2000, 3) := by decide +kernel
theorem dX12_readsRank_76 : decode cX12_readsRank 76 = .ok (.iload_n 3, 1) := by decide +kernel
theorem dX12_readsRank_77 : decode cX12_readsRank 77 = .ok (.iadd, 1) := by decide +kernel
theorem dX12_readsRank_78 : decode cX12_readsRank 78 = .ok (.iload_n 1, 1) := by decide +kernel
theorem dX12_readsRank_79 : decode cX12_readsRank 79 = .ok (.ifCond .ne 7, 3) := by decide +kernel
theorem dX12_readsRank_82 : decode cX12_readsRank 82 = .ok (.iconst 0, 1) := by decide +kernel
theorem dX12_readsRank_83 : decode cX12_readsRank 83 = .ok (.goto 13, 3) := by decide +kernel
theorem dX12_readsRank_86 : decode cX12_readsRank 86 = .ok (.iload_n 1, 1) := by decide +kernel
theorem dX12_readsRank_87 : decode cX12_readsRank 87 = .ok (.iconst 1, 1) := by decide +kernel
theorem dX12_readsRank_88 : decode cX12_readsRank 88 = .ok (.if_icmp .ne 7, 3) := by decide +kernel
theorem dX12_readsRank_91 : decode cX12_readsRank 91 = .ok (.iconst 3, 1) := by decide +kernel
theorem dX12_readsRank_92 : decode cX12_readsRank 92 = .ok (.goto 4, 3) := by decide +kernel
theorem dX12_readsRank_95 : decode cX12_readsRank 95 = .ok (.iconst 5, 1) := by decide +kernel
theorem dX12_readsRank_96 : decode cX12_readsRank 96 = .ok (.iadd, 1) := by decide +kernel
theorem dX12_readsRank_97 : decode cX12_readsRank 97 = .ok (.invokevirtual 220, 3) := by decide +kernel
theorem dX12_readsRank_100 : decode cX12_readsRank 100 = .ok (.iload_n 1, 1) := by decide +kernel
theorem dX12_readsRank_101 : decode cX12_readsRank 101 = .ok (.ifCond .le 7, 3) := by decide +kernel
theorem dX12_readsRank_104 : decode cX12_readsRank 104 = .ok (.iconst 1, 1) := by decide +kernel
theorem dX12_readsRank_105 : decode cX12_readsRank 105 = .ok (.goto 4, 3) := by decide +kernel
theorem dX12_readsRank_108 : decode cX12_readsRank 108 = .ok (.iconst 0, 1) := by decide +kernel
theorem dX12_readsRank_109 : decode cX12_readsRank 109 = .ok (.istore_n 2, 1) := by decide +kernel
theorem dX12_readsRank_110 : decode cX12_readsRank 110 = .ok (.goto (-86), 3) := by decide +kernel
theorem dX12_readsRank_113 : decode cX12_readsRank 113 = .ok (.iconst 1, 1) := by decide +kernel
theorem dX12_readsRank_114 : decode cX12_readsRank 114 = .ok (.ireturn, 1) := by decide +kernel
theorem dX12_readsRule_0 : decode cX12_readsRule 0 = .ok (.aload_n 0, 1) := by decide +kernel
theorem dX12_readsRule_1 : decode cX12_readsRule 1 = .ok (.bipush 40, 2) := by decide +kernel
theorem dX12_readsRule_3 : decode cX12_readsRule 3 = .ok (.invokevirtual 181, 3) := by decide +kernel
theorem dX12_readsRule_6 : decode cX12_readsRule 6 = .ok (.istore_n 1, 1) := by decide +kernel
theorem dX12_readsRule_7 : decode cX12_readsRule 7 = .ok (.aload_n 0, 1) := by decide +kernel
theorem dX12_readsRule_8 : decode cX12_readsRule 8 = .ok (.iconst 0, 1) := by decide +kernel
theorem dX12_readsRule_9 : decode cX12_readsRule 9 = .ok (.putfield 214, 3) := by decide +kernel
theorem dX12_readsRule_12 : decode cX12_readsRule 12 = .ok (.iload_n 1, 1) := by decide +kernel
theorem dX12_readsRule_13 : decode cX12_readsRule 13 = .ok (.ifCond .eq 11, 3) := by decide +kernel
theorem dX12_readsRule_16 : decode cX12_readsRule 16 = .ok (.aload_n 0, 1) := by decide +kernel
theorem dX12_readsRule_17 : decode cX12_readsRule 17 = .ok (.iconst 0, 1) := by decide +kernel
theorem dX12_readsRule_18 : decode cX12_readsRule 18 = .ok (.invokevirtual 229, 3) := by decide +kernel
theorem dX12_readsRule_21 : decode cX12_readsRule 21 = .ok (.ifCond .eq 7, 3) := by decide +kernel
theorem dX12_readsRule_24 : decode cX12_readsRule 24 = .ok (.iconst 1, 1) := by decide +kernel
theorem dX12_readsRule_25 : decode cX12_readsRule 25 = .ok (.goto 4, 3) := by decide +kernel
theorem dX12_readsRule_28 : decode cX12_readsRule 28 = .ok (.iconst 0, 1) := by decide +kernel
theorem dX12_readsRule_29 : decode cX12_readsRule 29 = .ok (.istore_n 2, 1) := by decide +kernel
theorem dX12_readsRule_30 : decode cX12_readsRule 30 = .ok (.aload_n 0, 1) := by decide +kernel
theorem dX12_readsRule_31 : decode cX12_readsRule 31 = .ok (.iload_n 1, 1) := by decide +kernel
theorem dX12_readsRule_32 : decode cX12_readsRule 32 = .ok (.bipush 40, 2) := by decide +kernel
theorem dX12_readsRule_34 : decode cX12_readsRule 34 = .ok (.iload_n 2, 1) := by decide +kernel
theorem dX12_readsRule_35 : decode cX12_readsRule 35 = .ok (.invokevirtual 210, 3) := by decide +kernel
theorem dX12_readsRule_38 : decode cX12_readsRule 38 = .ok (.ireturn, 1) := by decide +kernel
theorem dX12_laysCode_0 : decode cX12_laysCode 0 = .ok (.aload_n 0, 1) := by decide +kernel
theorem dX12_laysCode_1 : decode cX12_laysCode 1 = .ok (.iload_n 2, 1) := by decide +kernel
theorem dX12_laysCode_2 : decode cX12_laysCode 2 = .ok (.putfield 238, 3) := by decide +kernel
theorem dX12_laysCode_5 : decode cX12_laysCode 5 = .ok (.iconst 0, 1) := by decide +kernel
theorem dX12_laysCode_6 : decode cX12_laysCode 6 = .ok (.istore_n 3, 1) := by decide +kernel
theorem dX12_laysCode_7 : decode cX12_laysCode 7 = .ok (.iload_n 3, 1) := by decide +kernel
theorem dX12_laysCode_8 : decode cX12_laysCode 8 = .ok (.iload_n 2, 1) := by decide +kernel
theorem dX12_laysCode_9 : decode cX12_laysCode 9 = .ok (.if_icmp .ge 18, 3) := by decide +kernel
theorem dX12_laysCode_12 : decode cX12_laysCode 12 = .ok (.aload_n 0, 1) := by decide +kernel
theorem dX12_laysCode_13 : decode cX12_laysCode 13 = .ok (.getfield 48, 3) := by decide +kernel
theorem dX12_laysCode_16 : decode cX12_laysCode 16 = .ok (.iload_n 3, 1) := by decide +kernel
theorem dX12_laysCode_17 : decode cX12_laysCode 17 = .ok (.aload_n 1, 1) := by decide +kernel
theorem dX12_laysCode_18 : decode cX12_laysCode 18 = .ok (.iload_n 3, 1) := by decide +kernel
theorem dX12_laysCode_19 : decode cX12_laysCode 19 = .ok (.iaload, 1) := by decide +kernel
theorem dX12_laysCode_20 : decode cX12_laysCode 20 = .ok (.iastore, 1) := by decide +kernel
theorem dX12_laysCode_21 : decode cX12_laysCode 21 = .ok (.iinc 3 1, 3) := by decide +kernel
theorem dX12_laysCode_24 : decode cX12_laysCode 24 = .ok (.goto (-17), 3) := by decide +kernel
theorem dX12_laysCode_27 : decode cX12_laysCode 27 = .ok (.return_, 1) := by decide +kernel
theorem dX12_rule_0 : decode cX12_rule 0 = .ok (.aload_n 0, 1) := by decide +kernel
theorem dX12_rule_1 : decode cX12_rule 1 = .ok (.iconst 0, 1) := by decide +kernel
theorem dX12_rule_2 : decode cX12_rule 2 = .ok (.putfield 112, 3) := by decide +kernel
theorem dX12_rule_5 : decode cX12_rule 5 = .ok (.aload_n 0, 1) := by decide +kernel
theorem dX12_rule_6 : decode cX12_rule 6 = .ok (.invokevirtual 241, 3) := by decide +kernel
theorem dX12_rule_9 : decode cX12_rule 9 = .ok (.istore_n 1, 1) := by decide +kernel
theorem dX12_rule_10 : decode cX12_rule 10 = .ok (.iload_n 1, 1) := by decide +kernel
theorem dX12_rule_11 : decode cX12_rule 11 = .ok (.ifCond .ne 15, 3) := by decide +kernel
theorem dX12_rule_14 : decode cX12_rule 14 = .ok (.aload_n 0, 1) := by decide +kernel
theorem dX12_rule_15 : decode cX12_rule 15 = .ok (.aload_n 0, 1) := by decide +kernel
theorem dX12_rule_16 : decode cX12_rule 16 = .ok (.getfield 51, 3) := by decide +kernel
theorem dX12_rule_19 : decode cX12_rule 19 = .ok (.aload_n 0, 1) := by decide +kernel
theorem dX12_rule_20 : decode cX12_rule 20 = .ok (.getfield 214, 3) := by decide +kernel
theorem dX12_rule_23 : decode cX12_rule 23 = .ok (.invokevirtual 244, 3) := by decide +kernel
theorem dX12_rule_26 : decode cX12_rule 26 = .ok (.iload_n 1, 1) := by decide +kernel
theorem dX12_rule_27 : decode cX12_rule 27 = .ok (.ireturn, 1) := by decide +kernel
theorem dX12_worked_0 : decode cX12_worked 0 = .ok (.iload_n 0, 1) := by decide +kernel
theorem dX12_worked_1 : decode cX12_worked 1 = .ok (.tableswitch 93 0 5 #[39, 53, 67, 81, 85, 89], 39) := by decide +kernel
theorem dX12_worked_40 : decode cX12_worked 40 = .ok (.iload_n 1, 1) := by decide +kernel
theorem dX12_worked_41 : decode cX12_worked 41 = .ok (.iload_n 2, 1) := by decide +kernel
theorem dX12_worked_42 : decode cX12_worked 42 = .ok (.if_icmp .ge 7, 3) := by decide +kernel
theorem dX12_worked_45 : decode cX12_worked 45 = .ok (.iconst 1, 1) := by decide +kernel
theorem dX12_worked_46 : decode cX12_worked 46 = .ok (.goto 4, 3) := by decide +kernel
theorem dX12_worked_49 : decode cX12_worked 49 = .ok (.iconst 0, 1) := by decide +kernel
theorem dX12_worked_50 : decode cX12_worked 50 = .ok (.invokestatic 151, 3) := by decide +kernel
theorem dX12_worked_53 : decode cX12_worked 53 = .ok (.ireturn, 1) := by decide +kernel
theorem dX12_worked_54 : decode cX12_worked 54 = .ok (.iload_n 1, 1) := by decide +kernel
theorem dX12_worked_55 : decode cX12_worked 55 = .ok (.iload_n 2, 1) := by decide +kernel
theorem dX12_worked_56 : decode cX12_worked 56 = .ok (.if_icmp .le 7, 3) := by decide +kernel
theorem dX12_worked_59 : decode cX12_worked 59 = .ok (.iconst 1, 1) := by decide +kernel
theorem dX12_worked_60 : decode cX12_worked 60 = .ok (.goto 4, 3) := by decide +kernel
theorem dX12_worked_63 : decode cX12_worked 63 = .ok (.iconst 0, 1) := by decide +kernel
theorem dX12_worked_64 : decode cX12_worked 64 = .ok (.invokestatic 151, 3) := by decide +kernel
theorem dX12_worked_67 : decode cX12_worked 67 = .ok (.ireturn, 1) := by decide +kernel
theorem dX12_worked_68 : decode cX12_worked 68 = .ok (.iload_n 1, 1) := by decide +kernel
theorem dX12_worked_69 : decode cX12_worked 69 = .ok (.iload_n 2, 1) := by decide +kernel
theorem dX12_worked_70 : decode cX12_worked 70 = .ok (.if_icmp .ne 7, 3) := by decide +kernel
theorem dX12_worked_73 : decode cX12_worked 73 = .ok (.iconst 1, 1) := by decide +kernel
theorem dX12_worked_74 : decode cX12_worked 74 = .ok (.goto 4, 3) := by decide +kernel
theorem dX12_worked_77 : decode cX12_worked 77 = .ok (.iconst 0, 1) := by decide +kernel
theorem dX12_worked_78 : decode cX12_worked 78 = .ok (.invokestatic 151, 3) := by decide +kernel
theorem dX12_worked_81 : decode cX12_worked 81 = .ok (.ireturn, 1) := by decide +kernel
theorem dX12_worked_82 : decode cX12_worked 82 = .ok (.iload_n 1, 1) := by decide +kernel
theorem dX12_worked_83 : decode cX12_worked 83 = .ok (.iload_n 2, 1) := by decide +kernel
theorem dX12_worked_84 : decode cX12_worked 84 = .ok (.iadd, 1) := by decide +kernel
theorem dX12_worked_85 : decode cX12_worked 85 = .ok (.ireturn, 1) := by decide +kernel
theorem dX12_worked_86 : decode cX12_worked 86 = .ok (.iload_n 1, 1) := by decide +kernel
theorem dX12_worked_87 : decode cX12_worked 87 = .ok (.iload_n 2, 1) := by decide +kernel
theorem dX12_worked_88 : decode cX12_worked 88 = .ok (.isub, 1) := by decide +kernel
theorem dX12_worked_89 : decode cX12_worked 89 = .ok (.ireturn, 1) := by decide +kernel
theorem dX12_worked_90 : decode cX12_worked 90 = .ok (.iload_n 1, 1) := by decide +kernel
theorem dX12_worked_91 : decode cX12_worked 91 = .ok (.iload_n 2, 1) := by decide +kernel
theorem dX12_worked_92 : decode cX12_worked 92 = .ok (.imul, 1) := by decide +kernel
theorem dX12_worked_93 : decode cX12_worked 93 = .ok (.ireturn, 1) := by decide +kernel
theorem dX12_worked_94 : decode cX12_worked 94 = .ok (.iload_n 2, 1) := by decide +kernel
theorem dX12_worked_95 : decode cX12_worked 95 = .ok (.ifCond .ne 7, 3) := by decide +kernel
theorem dX12_worked_98 : decode cX12_worked 98 = .ok (.iconst 0, 1) := by decide +kernel
theorem dX12_worked_99 : decode cX12_worked 99 = .ok (.goto 6, 3) := by decide +kernel
theorem dX12_worked_102 : decode cX12_worked 102 = .ok (.iload_n 1, 1) := by decide +kernel
theorem dX12_worked_103 : decode cX12_worked 103 = .ok (.iload_n 2, 1) := by decide +kernel
theorem dX12_worked_104 : decode cX12_worked 104 = .ok (.idiv, 1) := by decide +kernel
theorem dX12_worked_105 : decode cX12_worked 105 = .ok (.ireturn, 1) := by decide +kernel
theorem dX12_ruled_0 : decode cX12_ruled 0 = .ok (.iconst 0, 1) := by decide +kernel
theorem dX12_ruled_1 : decode cX12_ruled 1 = .ok (.istore_n 1, 1) := by decide +kernel
theorem dX12_ruled_2 : decode cX12_ruled 2 = .ok (.iconst 0, 1) := by decide +kernel
theorem dX12_ruled_3 : decode cX12_ruled 3 = .ok (.istore_n 2, 1) := by decide +kernel
theorem dX12_ruled_4 : decode cX12_ruled 4 = .ok (.iload_n 2, 1) := by decide +kernel
theorem dX12_ruled_5 : decode cX12_ruled 5 = .ok (.aload_n 0, 1) := by decide +kernel
theorem dX12_ruled_6 : decode cX12_ruled 6 = .ok (.getfield 238, 3) := by decide +kernel
theorem dX12_ruled_9 : decode cX12_ruled 9 = .ok (.if_icmp .ge 116, 3) := by decide +kernel
theorem dX12_ruled_12 : decode cX12_ruled 12 = .ok (.aload_n 0, 1) := by decide +kernel
theorem dX12_ruled_13 : decode cX12_ruled 13 = .ok (.getfield 48, 3) := by decide +kernel
theorem dX12_ruled_16 : decode cX12_ruled 16 = .ok (.iload_n 2, 1) := by decide +kernel
theorem dX12_ruled_17 : decode cX12_ruled 17 = .ok (.iaload, 1) := by decide +kernel
theorem dX12_ruled_18 : decode cX12_ruled 18 = .ok (.istore_n 3, 1) := by decide +kernel
theorem dX12_ruled_19 : decode cX12_ruled 19 = .ok (.iload_n 3, 1) := by decide +kernel
theorem dX12_ruled_20 : decode cX12_ruled 20 = .ok (.sipush 3000, 3) := by decide +kernel
theorem dX12_ruled_23 : decode cX12_ruled 23 = .ok (.if_icmp .ne 23, 3) := by decide +kernel
theorem dX12_ruled_26 : decode cX12_ruled 26 = .ok (.aload_n 0, 1) := by decide +kernel
theorem dX12_ruled_27 : decode cX12_ruled 27 = .ok (.getfield 54, 3) := by decide +kernel
theorem dX12_ruled_30 : decode cX12_ruled 30 = .ok (.iload_n 1, 1) := by decide +kernel
theorem dX12_ruled_31 : decode cX12_ruled 31 = .ok (.iconst 1, 1) := by decide +kernel
theorem dX12_ruled_32 : decode cX12_ruled 32 = .ok (.isub, 1) := by decide +kernel
theorem dX12_ruled_33 : decode cX12_ruled 33 = .ok (.aload_n 0, 1) := by decide +kernel
theorem dX12_ruled_34 : decode cX12_ruled 34 = .ok (.getfield 54, 3) := by decide +kernel
theorem dX12_ruled_37 : decode cX12_ruled 37 = .ok (.iload_n 1, 1) := by decide +kernel
theorem dX12_ruled_38 : decode cX12_ruled 38 = .ok (.iconst 1, 1) := by decide +kernel
theorem dX12_ruled_39 : decode cX12_ruled 39 = .ok (.isub, 1) := by decide +kernel
theorem dX12_ruled_40 : decode cX12_ruled 40 = .ok (.iaload, 1) := by decide +kernel
theorem dX12_ruled_41 : decode cX12_ruled 41 = .ok (.ineg, 1) := by decide +kernel
theorem dX12_ruled_42 : decode cX12_ruled 42 = .ok (.iastore, 1) := by decide +kernel
theorem dX12_ruled_43 : decode cX12_ruled 43 = .ok (.goto 76, 3) := by decide +kernel
theorem dX12_ruled_46 : decode cX12_ruled 46 = .ok (.iload_n 3, 1) := by decide +kernel
theorem dX12_ruled_47 : decode cX12_ruled 47 = .ok (.sipush 2000, 3) := by decide +kernel
theorem dX12_ruled_50 : decode cX12_ruled 50 = .ok (.if_icmp .lt 39, 3) := by decide +kernel
theorem dX12_ruled_53 : decode cX12_ruled 53 = .ok (.iinc 1 (-1), 3) := by decide +kernel
theorem dX12_ruled_56 : decode cX12_ruled 56 = .ok (.aload_n 0, 1) := by decide +kernel
theorem dX12_ruled_57 : decode cX12_ruled 57 = .ok (.getfield 54, 3) := by decide +kernel
theorem dX12_ruled_60 : decode cX12_ruled 60 = .ok (.iload_n 1, 1) := by decide +kernel
theorem dX12_ruled_61 : decode cX12_ruled 61 = .ok (.iconst 1, 1) := by decide +kernel
theorem dX12_ruled_62 : decode cX12_ruled 62 = .ok (.isub, 1) := by decide +kernel
theorem dX12_ruled_63 : decode cX12_ruled 63 = .ok (.iload_n 3, 1) := by decide +kernel
theorem dX12_ruled_64 : decode cX12_ruled 64 = .ok (.sipush 2000, 3) := by decide +kernel
theorem dX12_ruled_67 : decode cX12_ruled 67 = .ok (.isub, 1) := by decide +kernel
theorem dX12_ruled_68 : decode cX12_ruled 68 = .ok (.aload_n 0, 1) := by decide +kernel
theorem dX12_ruled_69 : decode cX12_ruled 69 = .ok (.getfield 54, 3) := by decide +kernel
theorem dX12_ruled_72 : decode cX12_ruled 72 = .ok (.iload_n 1, 1) := by decide +kernel
theorem dX12_ruled_73 : decode cX12_ruled 73 = .ok (.iconst 1, 1) := by decide +kernel
theorem dX12_ruled_74 : decode cX12_ruled 74 = .ok (.isub, 1) := by decide +kernel
theorem dX12_ruled_75 : decode cX12_ruled 75 = .ok (.iaload, 1) := by decide +kernel
theorem dX12_ruled_76 : decode cX12_ruled 76 = .ok (.aload_n 0, 1) := by decide +kernel
theorem dX12_ruled_77 : decode cX12_ruled 77 = .ok (.getfield 54, 3) := by decide +kernel
theorem dX12_ruled_80 : decode cX12_ruled 80 = .ok (.iload_n 1, 1) := by decide +kernel
theorem dX12_ruled_81 : decode cX12_ruled 81 = .ok (.iaload, 1) := by decide +kernel
theorem dX12_ruled_82 : decode cX12_ruled 82 = .ok (.invokestatic 248, 3) := by decide +kernel
theorem dX12_ruled_85 : decode cX12_ruled 85 = .ok (.iastore, 1) := by decide +kernel
theorem dX12_ruled_86 : decode cX12_ruled 86 = .ok (.goto 33, 3) := by decide +kernel
theorem dX12_ruled_89 : decode cX12_ruled 89 = .ok (.aload_n 0, 1) := by decide +kernel
theorem dX12_ruled_90 : decode cX12_ruled 90 = .ok (.getfield 54, 3) := by decide +kernel
theorem dX12_ruled_93 : decode cX12_ruled 93 = .ok (.iload_n 1, 1) := by decide +kernel
theorem dX12_ruled_94 : decode cX12_ruled 94 = .ok (.iload_n 3, 1) := by decide +kernel
theorem dX12_ruled_95 : decode cX12_ruled 95 = .ok (.sipush 1000, 3) := by decide +kernel
theorem dX12_ruled_98 : decode cX12_ruled 98 = .ok (.if_icmp .lt 16, 3) := by decide +kernel
theorem dX12_ruled_101 : decode cX12_ruled 101 = .ok (.aload_n 0, 1) := by decide +kernel
theorem dX12_ruled_102 : decode cX12_ruled 102 = .ok (.getfield 57, 3) := by decide +kernel
theorem dX12_ruled_105 : decode cX12_ruled 105 = .ok (.iload_n 3, 1) := by decide +kernel
theorem dX12_ruled_106 : decode cX12_ruled 106 = .ok (.sipush 1000, 3) := by decide +kernel
theorem dX12_ruled_109 : decode cX12_ruled 109 = .ok (.isub, 1) := by decide +kernel
theorem dX12_ruled_110 : decode cX12_ruled 110 = .ok (.iaload, 1) := by decide +kernel
theorem dX12_ruled_111 : decode cX12_ruled 111 = .ok (.goto 4, 3) := by decide +kernel
theorem dX12_ruled_114 : decode cX12_ruled 114 = .ok (.iload_n 3, 1) := by decide +kernel
theorem dX12_ruled_115 : decode cX12_ruled 115 = .ok (.iastore, 1) := by decide +kernel
theorem dX12_ruled_116 : decode cX12_ruled 116 = .ok (.iinc 1 1, 3) := by decide +kernel
theorem dX12_ruled_119 : decode cX12_ruled 119 = .ok (.iinc 2 1, 3) := by decide +kernel
theorem dX12_ruled_122 : decode cX12_ruled 122 = .ok (.goto (-118), 3) := by decide +kernel
theorem dX12_ruled_125 : decode cX12_ruled 125 = .ok (.aload_n 0, 1) := by decide +kernel
theorem dX12_ruled_126 : decode cX12_ruled 126 = .ok (.getfield 238, 3) := by decide +kernel
theorem dX12_ruled_129 : decode cX12_ruled 129 = .ok (.ifCond .ne 27, 3) := by decide +kernel
theorem dX12_ruled_132 : decode cX12_ruled 132 = .ok (.bipush 30, 2) := by decide +kernel
theorem dX12_ruled_134 : decode cX12_ruled 134 = .ok (.bipush 10, 2) := by decide +kernel
theorem dX12_ruled_136 : decode cX12_ruled 136 = .ok (.aload_n 0, 1) := by decide +kernel
theorem dX12_ruled_137 : decode cX12_ruled 137 = .ok (.getfield 57, 3) := by decide +kernel
theorem dX12_ruled_140 : decode cX12_ruled 140 = .ok (.iconst 1, 1) := by decide +kernel
theorem dX12_ruled_141 : decode cX12_ruled 141 = .ok (.iaload, 1) := by decide +kernel
theorem dX12_ruled_142 : decode cX12_ruled 142 = .ok (.imul, 1) := by decide +kernel
theorem dX12_ruled_143 : decode cX12_ruled 143 = .ok (.iadd, 1) := by decide +kernel
theorem dX12_ruled_144 : decode cX12_ruled 144 = .ok (.iconst 5, 1) := by decide +kernel
theorem dX12_ruled_145 : decode cX12_ruled 145 = .ok (.aload_n 0, 1) := by decide +kernel
theorem dX12_ruled_146 : decode cX12_ruled 146 = .ok (.getfield 57, 3) := by decide +kernel
theorem dX12_ruled_149 : decode cX12_ruled 149 = .ok (.iconst 0, 1) := by decide +kernel
theorem dX12_ruled_150 : decode cX12_ruled 150 = .ok (.iaload, 1) := by decide +kernel
theorem dX12_ruled_151 : decode cX12_ruled 151 = .ok (.imul, 1) := by decide +kernel
theorem dX12_ruled_152 : decode cX12_ruled 152 = .ok (.iadd, 1) := by decide +kernel
theorem dX12_ruled_153 : decode cX12_ruled 153 = .ok (.goto 9, 3) := by decide +kernel
theorem dX12_ruled_156 : decode cX12_ruled 156 = .ok (.aload_n 0, 1) := by decide +kernel
theorem dX12_ruled_157 : decode cX12_ruled 157 = .ok (.getfield 54, 3) := by decide +kernel
theorem dX12_ruled_160 : decode cX12_ruled 160 = .ok (.iconst 0, 1) := by decide +kernel
theorem dX12_ruled_161 : decode cX12_ruled 161 = .ok (.iaload, 1) := by decide +kernel
theorem dX12_ruled_162 : decode cX12_ruled 162 = .ok (.ireturn, 1) := by decide +kernel
theorem dX12_levelOf_0 : decode cX12_levelOf 0 = .ok (.aload_n 0, 1) := by decide +kernel
theorem dX12_levelOf_1 : decode cX12_levelOf 1 = .ok (.getfield 57, 3) := by decide +kernel
theorem dX12_levelOf_4 : decode cX12_levelOf 4 = .ok (.iconst 0, 1) := by decide +kernel
theorem dX12_levelOf_5 : decode cX12_levelOf 5 = .ok (.iload_n 2, 1) := by decide +kernel
theorem dX12_levelOf_6 : decode cX12_levelOf 6 = .ok (.bipush 8, 2) := by decide +kernel
theorem dX12_levelOf_8 : decode cX12_levelOf 8 = .ok (.irem, 1) := by decide +kernel
theorem dX12_levelOf_9 : decode cX12_levelOf 9 = .ok (.iastore, 1) := by decide +kernel
theorem dX12_levelOf_10 : decode cX12_levelOf 10 = .ok (.aload_n 0, 1) := by decide +kernel
theorem dX12_levelOf_11 : decode cX12_levelOf 11 = .ok (.getfield 57, 3) := by decide +kernel
theorem dX12_levelOf_14 : decode cX12_levelOf 14 = .ok (.iconst 1, 1) := by decide +kernel
theorem dX12_levelOf_15 : decode cX12_levelOf 15 = .ok (.aload_n 0, 1) := by decide +kernel
theorem dX12_levelOf_16 : decode cX12_levelOf 16 = .ok (.getfield 33, 3) := by decide +kernel
theorem dX12_levelOf_19 : decode cX12_levelOf 19 = .ok (.iconst 0, 1) := by decide +kernel
theorem dX12_levelOf_20 : decode cX12_levelOf 20 = .ok (.iaload, 1) := by decide +kernel
theorem dX12_levelOf_21 : decode cX12_levelOf 21 = .ok (.iastore, 1) := by decide +kernel
theorem dX12_levelOf_22 : decode cX12_levelOf 22 = .ok (.aload_n 0, 1) := by decide +kernel
theorem dX12_levelOf_23 : decode cX12_levelOf 23 = .ok (.getfield 57, 3) := by decide +kernel
theorem dX12_levelOf_26 : decode cX12_levelOf 26 = .ok (.iconst 2, 1) := by decide +kernel
theorem dX12_levelOf_27 : decode cX12_levelOf 27 = .ok (.aload_n 0, 1) := by decide +kernel
theorem dX12_levelOf_28 : decode cX12_levelOf 28 = .ok (.getfield 13, 3) := by decide +kernel
theorem dX12_levelOf_31 : decode cX12_levelOf 31 = .ok (.iastore, 1) := by decide +kernel
theorem dX12_levelOf_32 : decode cX12_levelOf 32 = .ok (.aload_n 0, 1) := by decide +kernel
theorem dX12_levelOf_33 : decode cX12_levelOf 33 = .ok (.getfield 57, 3) := by decide +kernel
theorem dX12_levelOf_36 : decode cX12_levelOf 36 = .ok (.iconst 3, 1) := by decide +kernel
theorem dX12_levelOf_37 : decode cX12_levelOf 37 = .ok (.aload_n 1, 1) := by decide +kernel
theorem dX12_levelOf_38 : decode cX12_levelOf 38 = .ok (.bipush 12, 2) := by decide +kernel
theorem dX12_levelOf_40 : decode cX12_levelOf 40 = .ok (.iaload, 1) := by decide +kernel
theorem dX12_levelOf_41 : decode cX12_levelOf 41 = .ok (.invokestatic 251, 3) := by decide +kernel
theorem dX12_levelOf_44 : decode cX12_levelOf 44 = .ok (.iastore, 1) := by decide +kernel
theorem dX12_levelOf_45 : decode cX12_levelOf 45 = .ok (.iconst 0, 1) := by decide +kernel
theorem dX12_levelOf_46 : decode cX12_levelOf 46 = .ok (.sipush 999, 3) := by decide +kernel
theorem dX12_levelOf_49 : decode cX12_levelOf 49 = .ok (.aload_n 0, 1) := by decide +kernel
theorem dX12_levelOf_50 : decode cX12_levelOf 50 = .ok (.invokevirtual 256, 3) := by decide +kernel
theorem dX12_levelOf_53 : decode cX12_levelOf 53 = .ok (.invokestatic 142, 3) := by decide +kernel
theorem dX12_levelOf_56 : decode cX12_levelOf 56 = .ok (.invokestatic 259, 3) := by decide +kernel
theorem dX12_levelOf_59 : decode cX12_levelOf 59 = .ok (.ireturn, 1) := by decide +kernel
theorem dX12_areNear_0 : decode cX12_areNear 0 = .ok (.iload_n 2, 1) := by decide +kernel
theorem dX12_areNear_1 : decode cX12_areNear 1 = .ok (.ifCond .lt 45, 3) := by decide +kernel
theorem dX12_areNear_4 : decode cX12_areNear 4 = .ok (.iload_n 3, 1) := by decide +kernel
theorem dX12_areNear_5 : decode cX12_areNear 5 = .ok (.ifCond .lt 41, 3) := by decide +kernel
theorem dX12_areNear_8 : decode cX12_areNear 8 = .ok (.aload_n 1, 1) := by decide +kernel
theorem dX12_areNear_9 : decode cX12_areNear 9 = .ok (.iload_n 2, 1) := by decide +kernel
theorem dX12_areNear_10 : decode cX12_areNear 10 = .ok (.invokestatic 129, 3) := by decide +kernel
theorem dX12_areNear_13 : decode cX12_areNear 13 = .ok (.ifCond .lt 33, 3) := by decide +kernel
theorem dX12_areNear_16 : decode cX12_areNear 16 = .ok (.aload_n 1, 1) := by decide +kernel
theorem dX12_areNear_17 : decode cX12_areNear 17 = .ok (.iload_n 3, 1) := by decide +kernel
theorem dX12_areNear_18 : decode cX12_areNear 18 = .ok (.invokestatic 129, 3) := by decide +kernel
theorem dX12_areNear_21 : decode cX12_areNear 21 = .ok (.ifCond .lt 25, 3) := by decide +kernel
theorem dX12_areNear_24 : decode cX12_areNear 24 = .ok (.aload_n 1, 1) := by decide +kernel
theorem dX12_areNear_25 : decode cX12_areNear 25 = .ok (.iload_n 2, 1) := by decide +kernel
theorem dX12_areNear_26 : decode cX12_areNear 26 = .ok (.invokestatic 129, 3) := by decide +kernel
theorem dX12_areNear_29 : decode cX12_areNear 29 = .ok (.aload_n 1, 1) := by decide +kernel
theorem dX12_areNear_30 : decode cX12_areNear 30 = .ok (.iload_n 3, 1) := by decide +kernel
theorem dX12_areNear_31 : decode cX12_areNear 31 = .ok (.invokestatic 129, 3) := by decide +kernel
theorem dX12_areNear_34 : decode cX12_areNear 34 = .ok (.isub, 1) := by decide +kernel
theorem dX12_areNear_35 : decode cX12_areNear 35 = .ok (.invokestatic 262, 3) := by decide +kernel
theorem dX12_areNear_38 : decode cX12_areNear 38 = .ok (.iconst 1, 1) := by decide +kernel
theorem dX12_areNear_39 : decode cX12_areNear 39 = .ok (.if_icmp .gt 7, 3) := by decide +kernel
theorem dX12_areNear_42 : decode cX12_areNear 42 = .ok (.iconst 1, 1) := by decide +kernel
theorem dX12_areNear_43 : decode cX12_areNear 43 = .ok (.goto 4, 3) := by decide +kernel
theorem dX12_areNear_46 : decode cX12_areNear 46 = .ok (.iconst 0, 1) := by decide +kernel
theorem dX12_areNear_47 : decode cX12_areNear 47 = .ok (.ireturn, 1) := by decide +kernel
theorem dX12_hasFriend_0 : decode cX12_hasFriend 0 = .ok (.aload_n 0, 1) := by decide +kernel
theorem dX12_hasFriend_1 : decode cX12_hasFriend 1 = .ok (.aload_n 1, 1) := by decide +kernel
theorem dX12_hasFriend_2 : decode cX12_hasFriend 2 = .ok (.iload_n 2, 1) := by decide +kernel
theorem dX12_hasFriend_3 : decode cX12_hasFriend 3 = .ok (.aload_n 0, 1) := by decide +kernel
theorem dX12_hasFriend_4 : decode cX12_hasFriend 4 = .ok (.getfield 30, 3) := by decide +kernel
theorem dX12_hasFriend_7 : decode cX12_hasFriend 7 = .ok (.iload_n 2, 1) := by decide +kernel
theorem dX12_hasFriend_8 : decode cX12_hasFriend 8 = .ok (.iaload, 1) := by decide +kernel
theorem dX12_hasFriend_9 : decode cX12_hasFriend 9 = .ok (.invokevirtual 265, 3) := by decide +kernel
theorem dX12_hasFriend_12 : decode cX12_hasFriend 12 = .ok (.istore_n 3, 1) := by decide +kernel
theorem dX12_hasFriend_13 : decode cX12_hasFriend 13 = .ok (.iconst 0, 1) := by decide +kernel
theorem dX12_hasFriend_14 : decode cX12_hasFriend 14 = .ok (.istore 4, 2) := by decide +kernel
theorem dX12_hasFriend_16 : decode cX12_hasFriend 16 = .ok (.iload 4, 2) := by decide +kernel
theorem dX12_hasFriend_18 : decode cX12_hasFriend 18 = .ok (.aload_n 0, 1) := by decide +kernel
theorem dX12_hasFriend_19 : decode cX12_hasFriend 19 = .ok (.getfield 126, 3) := by decide +kernel
theorem dX12_hasFriend_22 : decode cX12_hasFriend 22 = .ok (.if_icmp .ge 41, 3) := by decide +kernel
theorem dX12_hasFriend_25 : decode cX12_hasFriend 25 = .ok (.iload_n 3, 1) := by decide +kernel
theorem dX12_hasFriend_26 : decode cX12_hasFriend 26 = .ok (.ifCond .ne 25, 3) := by decide +kernel
theorem dX12_hasFriend_29 : decode cX12_hasFriend 29 = .ok (.aload_n 0, 1) := by decide +kernel
theorem dX12_hasFriend_30 : decode cX12_hasFriend 30 = .ok (.getfield 30, 3) := by decide +kernel
theorem dX12_hasFriend_33 : decode cX12_hasFriend 33 = .ok (.iload 4, 2) := by decide +kernel
theorem dX12_hasFriend_35 : decode cX12_hasFriend 35 = .ok (.iaload, 1) := by decide +kernel
theorem dX12_hasFriend_36 : decode cX12_hasFriend 36 = .ok (.iload_n 2, 1) := by decide +kernel
theorem dX12_hasFriend_37 : decode cX12_hasFriend 37 = .ok (.if_icmp .ne 18, 3) := by decide +kernel
theorem dX12_hasFriend_40 : decode cX12_hasFriend 40 = .ok (.aload_n 0, 1) := by decide +kernel
theorem dX12_hasFriend_41 : decode cX12_hasFriend 41 = .ok (.aload_n 1, 1) := by decide +kernel
theorem dX12_hasFriend_42 : decode cX12_hasFriend 42 = .ok (.iload_n 2, 1) := by decide +kernel
theorem dX12_hasFriend_43 : decode cX12_hasFriend 43 = .ok (.iload 4, 2) := by decide +kernel
theorem dX12_hasFriend_45 : decode cX12_hasFriend 45 = .ok (.invokevirtual 265, 3) := by decide +kernel
theorem dX12_hasFriend_48 : decode cX12_hasFriend 48 = .ok (.ifCond .eq 7, 3) := by decide +kernel
theorem dX12_hasFriend_51 : decode cX12_hasFriend 51 = .ok (.iconst 1, 1) := by decide +kernel
theorem dX12_hasFriend_52 : decode cX12_hasFriend 52 = .ok (.goto 4, 3) := by decide +kernel
theorem dX12_hasFriend_55 : decode cX12_hasFriend 55 = .ok (.iconst 0, 1) := by decide +kernel
theorem dX12_hasFriend_56 : decode cX12_hasFriend 56 = .ok (.istore_n 3, 1) := by decide +kernel
theorem dX12_hasFriend_57 : decode cX12_hasFriend 57 = .ok (.iinc 4 1, 3) := by decide +kernel
theorem dX12_hasFriend_60 : decode cX12_hasFriend 60 = .ok (.goto (-44), 3) := by decide +kernel
theorem dX12_hasFriend_63 : decode cX12_hasFriend 63 = .ok (.iload_n 3, 1) := by decide +kernel
theorem dX12_hasFriend_64 : decode cX12_hasFriend 64 = .ok (.ireturn, 1) := by decide +kernel
theorem dX12_bucketsOf_0 : decode cX12_bucketsOf 0 = .ok (.aload_n 1, 1) := by decide +kernel
theorem dX12_bucketsOf_1 : decode cX12_bucketsOf 1 = .ok (.iload_n 2, 1) := by decide +kernel
theorem dX12_bucketsOf_2 : decode cX12_bucketsOf 2 = .ok (.invokestatic 129, 3) := by decide +kernel
theorem dX12_bucketsOf_5 : decode cX12_bucketsOf 5 = .ok (.ifCond .ge 5, 3) := by decide +kernel
theorem dX12_bucketsOf_8 : decode cX12_bucketsOf 8 = .ok (.iconst 0, 1) := by decide +kernel
theorem dX12_bucketsOf_9 : decode cX12_bucketsOf 9 = .ok (.ireturn, 1) := by decide +kernel
theorem dX12_bucketsOf_10 : decode cX12_bucketsOf 10 = .ok (.aload_n 0, 1) := by decide +kernel
theorem dX12_bucketsOf_11 : decode cX12_bucketsOf 11 = .ok (.getfield 27, 3) := by decide +kernel
theorem dX12_bucketsOf_14 : decode cX12_bucketsOf 14 = .ok (.iload_n 2, 1) := by decide +kernel
theorem dX12_bucketsOf_15 : decode cX12_bucketsOf 15 = .ok (.iaload, 1) := by decide +kernel
theorem dX12_bucketsOf_16 : decode cX12_bucketsOf 16 = .ok (.iconst 2, 1) := by decide +kernel
theorem dX12_bucketsOf_17 : decode cX12_bucketsOf 17 = .ok (.aload_n 1, 1) := by decide +kernel
theorem dX12_bucketsOf_18 : decode cX12_bucketsOf 18 = .ok (.bipush 41, 2) := by decide +kernel
theorem dX12_bucketsOf_20 : decode cX12_bucketsOf 20 = .ok (.iaload, 1) := by decide +kernel
theorem dX12_bucketsOf_21 : decode cX12_bucketsOf 21 = .ok (.iload_n 2, 1) := by decide +kernel
theorem dX12_bucketsOf_22 : decode cX12_bucketsOf 22 = .ok (.invokestatic 269, 3) := by decide +kernel
theorem dX12_bucketsOf_25 : decode cX12_bucketsOf 25 = .ok (.invokestatic 151, 3) := by decide +kernel
theorem dX12_bucketsOf_28 : decode cX12_bucketsOf 28 = .ok (.imul, 1) := by decide +kernel
theorem dX12_bucketsOf_29 : decode cX12_bucketsOf 29 = .ok (.iadd, 1) := by decide +kernel
theorem dX12_bucketsOf_30 : decode cX12_bucketsOf 30 = .ok (.aload_n 0, 1) := by decide +kernel
theorem dX12_bucketsOf_31 : decode cX12_bucketsOf 31 = .ok (.aload_n 1, 1) := by decide +kernel
theorem dX12_bucketsOf_32 : decode cX12_bucketsOf 32 = .ok (.iload_n 2, 1) := by decide +kernel
theorem dX12_bucketsOf_33 : decode cX12_bucketsOf 33 = .ok (.invokevirtual 273, 3) := by decide +kernel
theorem dX12_bucketsOf_36 : decode cX12_bucketsOf 36 = .ok (.invokestatic 151, 3) := by decide +kernel
theorem dX12_bucketsOf_39 : decode cX12_bucketsOf 39 = .ok (.iadd, 1) := by decide +kernel
theorem dX12_bucketsOf_40 : decode cX12_bucketsOf 40 = .ok (.istore_n 3, 1) := by decide +kernel
theorem dX12_bucketsOf_41 : decode cX12_bucketsOf 41 = .ok (.aload_n 1, 1) := by decide +kernel
theorem dX12_bucketsOf_42 : decode cX12_bucketsOf 42 = .ok (.iload_n 2, 1) := by decide +kernel
theorem dX12_bucketsOf_43 : decode cX12_bucketsOf 43 = .ok (.invokestatic 277, 3) := by decide +kernel
theorem dX12_bucketsOf_46 : decode cX12_bucketsOf 46 = .ok (.iconst 3, 1) := by decide +kernel
theorem dX12_bucketsOf_47 : decode cX12_bucketsOf 47 = .ok (.if_icmp .ge 9, 3) := by decide +kernel
theorem dX12_bucketsOf_50 : decode cX12_bucketsOf 50 = .ok (.iload_n 3, 1) := by decide +kernel
theorem dX12_bucketsOf_51 : decode cX12_bucketsOf 51 = .ok (.iconst 2, 1) := by decide +kernel
theorem dX12_bucketsOf_52 : decode cX12_bucketsOf 52 = .ok (.idiv, 1) := by decide +kernel
theorem dX12_bucketsOf_53 : decode cX12_bucketsOf 53 = .ok (.goto 4, 3) := by decide +kernel
theorem dX12_bucketsOf_56 : decode cX12_bucketsOf 56 = .ok (.iload_n 3, 1) := by decide +kernel
theorem dX12_bucketsOf_57 : decode cX12_bucketsOf 57 = .ok (.istore_n 3, 1) := by decide +kernel
theorem dX12_bucketsOf_58 : decode cX12_bucketsOf 58 = .ok (.aload_n 0, 1) := by decide +kernel
theorem dX12_bucketsOf_59 : decode cX12_bucketsOf 59 = .ok (.getfield 24, 3) := by decide +kernel
theorem dX12_bucketsOf_62 : decode cX12_bucketsOf 62 = .ok (.iload_n 2, 1) := by decide +kernel
theorem dX12_bucketsOf_63 : decode cX12_bucketsOf 63 = .ok (.iaload, 1) := by decide +kernel
theorem dX12_bucketsOf_64 : decode cX12_bucketsOf 64 = .ok (.bipush 13, 2) := by decide +kernel
theorem dX12_bucketsOf_66 : decode cX12_bucketsOf 66 = .ok (.if_icmp .ne 9, 3) := by decide +kernel
theorem dX12_bucketsOf_69 : decode cX12_bucketsOf 69 = .ok (.iload_n 3, 1) := by decide +kernel
theorem dX12_bucketsOf_70 : decode cX12_bucketsOf 70 = .ok (.iconst 2, 1) := by decide +kernel
theorem dX12_bucketsOf_71 : decode cX12_bucketsOf 71 = .ok (.idiv, 1) := by decide +kernel
theorem dX12_bucketsOf_72 : decode cX12_bucketsOf 72 = .ok (.goto 4, 3) := by decide +kernel
theorem dX12_bucketsOf_75 : decode cX12_bucketsOf 75 = .ok (.iload_n 3, 1) := by decide +kernel
theorem dX12_bucketsOf_76 : decode cX12_bucketsOf 76 = .ok (.ireturn, 1) := by decide +kernel
theorem dX12_cell_0 : decode cX12_cell 0 = .ok (.aload_n 0, 1) := by decide +kernel
theorem dX12_cell_1 : decode cX12_cell 1 = .ok (.iconst 0, 1) := by decide +kernel
theorem dX12_cell_2 : decode cX12_cell 2 = .ok (.putfield 112, 3) := by decide +kernel
theorem dX12_cell_5 : decode cX12_cell 5 = .ok (.aload_n 0, 1) := by decide +kernel
theorem dX12_cell_6 : decode cX12_cell 6 = .ok (.iload_n 1, 1) := by decide +kernel
theorem dX12_cell_7 : decode cX12_cell 7 = .ok (.invokevirtual 280, 3) := by decide +kernel
theorem dX12_cell_10 : decode cX12_cell 10 = .ok (.ifCond .eq 15, 3) := by decide +kernel
theorem dX12_cell_13 : decode cX12_cell 13 = .ok (.iload_n 2, 1) := by decide +kernel
theorem dX12_cell_14 : decode cX12_cell 14 = .ok (.i2l, 1) := by decide +kernel
theorem dX12_cell_15 : decode cX12_cell 15 = .ok (.lconst 0, 1) := by decide +kernel
theorem dX12_cell_16 : decode cX12_cell 16 = .ok (.ldc2_w 283, 3) := by decide +kernel
theorem dX12_cell_19 : decode cX12_cell 19 = .ok (.invokestatic 122, 3) := by decide +kernel
theorem dX12_cell_22 : decode cX12_cell 22 = .ok (.ifCond .ne 8, 3) := by decide +kernel
theorem dX12_cell_25 : decode cX12_cell 25 = .ok (.aload_n 0, 1) := by decide +kernel
theorem dX12_cell_26 : decode cX12_cell 26 = .ok (.invokevirtual 285, 3) := by decide +kernel
theorem dX12_cell_29 : decode cX12_cell 29 = .ok (.ireturn, 1) := by decide +kernel
theorem dX12_cell_30 : decode cX12_cell 30 = .ok (.iload_n 2, 1) := by decide +kernel
theorem dX12_cell_31 : decode cX12_cell 31 = .ok (.tableswitch 93 0 5 #[37, 44, 51, 66, 76, 83], 37) := by decide +kernel
theorem dX12_cell_68 : decode cX12_cell 68 = .ok (.aload_n 0, 1) := by decide +kernel
theorem dX12_cell_69 : decode cX12_cell 69 = .ok (.getfield 17, 3) := by decide +kernel
theorem dX12_cell_72 : decode cX12_cell 72 = .ok (.iload_n 1, 1) := by decide +kernel
theorem dX12_cell_73 : decode cX12_cell 73 = .ok (.iaload, 1) := by decide +kernel
theorem dX12_cell_74 : decode cX12_cell 74 = .ok (.ireturn, 1) := by decide +kernel
theorem dX12_cell_75 : decode cX12_cell 75 = .ok (.aload_n 0, 1) := by decide +kernel
theorem dX12_cell_76 : decode cX12_cell 76 = .ok (.getfield 36, 3) := by decide +kernel
theorem dX12_cell_79 : decode cX12_cell 79 = .ok (.iload_n 1, 1) := by decide +kernel
theorem dX12_cell_80 : decode cX12_cell 80 = .ok (.iaload, 1) := by decide +kernel
theorem dX12_cell_81 : decode cX12_cell 81 = .ok (.ireturn, 1) := by decide +kernel
theorem dX12_cell_82 : decode cX12_cell 82 = .ok (.aload_n 0, 1) := by decide +kernel
theorem dX12_cell_83 : decode cX12_cell 83 = .ok (.getfield 36, 3) := by decide +kernel
theorem dX12_cell_86 : decode cX12_cell 86 = .ok (.bipush 12, 2) := by decide +kernel
theorem dX12_cell_88 : decode cX12_cell 88 = .ok (.iaload, 1) := by decide +kernel
theorem dX12_cell_89 : decode cX12_cell 89 = .ok (.iload_n 1, 1) := by decide +kernel
theorem dX12_cell_90 : decode cX12_cell 90 = .ok (.invokestatic 269, 3) := by decide +kernel
theorem dX12_cell_93 : decode cX12_cell 93 = .ok (.invokestatic 151, 3) := by decide +kernel
theorem dX12_cell_96 : decode cX12_cell 96 = .ok (.ireturn, 1) := by decide +kernel
theorem dX12_cell_97 : decode cX12_cell 97 = .ok (.aload_n 0, 1) := by decide +kernel
theorem dX12_cell_98 : decode cX12_cell 98 = .ok (.getfield 36, 3) := by decide +kernel
theorem dX12_cell_101 : decode cX12_cell 101 = .ok (.bipush 13, 2) := by decide +kernel
theorem dX12_cell_103 : decode cX12_cell 103 = .ok (.iload_n 1, 1) := by decide +kernel
theorem dX12_cell_104 : decode cX12_cell 104 = .ok (.iadd, 1) := by decide +kernel
theorem dX12_cell_105 : decode cX12_cell 105 = .ok (.iaload, 1) := by decide +kernel
theorem dX12_cell_106 : decode cX12_cell 106 = .ok (.ireturn, 1) := by decide +kernel
theorem dX12_cell_107 : decode cX12_cell 107 = .ok (.aload_n 0, 1) := by decide +kernel
theorem dX12_cell_108 : decode cX12_cell 108 = .ok (.getfield 21, 3) := by decide +kernel
theorem dX12_cell_111 : decode cX12_cell 111 = .ok (.iload_n 1, 1) := by decide +kernel
theorem dX12_cell_112 : decode cX12_cell 112 = .ok (.iaload, 1) := by decide +kernel
theorem dX12_cell_113 : decode cX12_cell 113 = .ok (.ireturn, 1) := by decide +kernel
theorem dX12_cell_114 : decode cX12_cell 114 = .ok (.aload_n 0, 1) := by decide +kernel
theorem dX12_cell_115 : decode cX12_cell 115 = .ok (.aload_n 0, 1) := by decide +kernel
theorem dX12_cell_116 : decode cX12_cell 116 = .ok (.getfield 36, 3) := by decide +kernel
theorem dX12_cell_119 : decode cX12_cell 119 = .ok (.iload_n 1, 1) := by decide +kernel
theorem dX12_cell_120 : decode cX12_cell 120 = .ok (.invokevirtual 288, 3) := by decide +kernel
theorem dX12_cell_123 : decode cX12_cell 123 = .ok (.ireturn, 1) := by decide +kernel
theorem dX12_cell_124 : decode cX12_cell 124 = .ok (.aload_n 0, 1) := by decide +kernel
theorem dX12_cell_125 : decode cX12_cell 125 = .ok (.aload_n 0, 1) := by decide +kernel
theorem dX12_cell_126 : decode cX12_cell 126 = .ok (.getfield 36, 3) := by decide +kernel
theorem dX12_cell_129 : decode cX12_cell 129 = .ok (.iload_n 1, 1) := by decide +kernel
theorem dX12_cell_130 : decode cX12_cell 130 = .ok (.invokevirtual 291, 3) := by decide +kernel
theorem dX12_cell_133 : decode cX12_cell 133 = .ok (.ireturn, 1) := by decide +kernel
theorem dX12_child_0 : decode cX12_child 0 = .ok (.aload_n 0, 1) := by decide +kernel
theorem dX12_child_1 : decode cX12_child 1 = .ok (.iconst 0, 1) := by decide +kernel
theorem dX12_child_2 : decode cX12_child 2 = .ok (.putfield 112, 3) := by decide +kernel
theorem dX12_child_5 : decode cX12_child 5 = .ok (.aload_n 0, 1) := by decide +kernel
theorem dX12_child_6 : decode cX12_child 6 = .ok (.iload_n 1, 1) := by decide +kernel
theorem dX12_child_7 : decode cX12_child 7 = .ok (.invokevirtual 294, 3) := by decide +kernel
theorem dX12_child_10 : decode cX12_child 10 = .ok (.ifCond .eq 15, 3) := by decide +kernel
theorem dX12_child_13 : decode cX12_child 13 = .ok (.iload_n 2, 1) := by decide +kernel
theorem dX12_child_14 : decode cX12_child 14 = .ok (.i2l, 1) := by decide +kernel
theorem dX12_child_15 : decode cX12_child 15 = .ok (.lconst 0, 1) := by decide +kernel
theorem dX12_child_16 : decode cX12_child 16 = .ok (.ldc2_w 283, 3) := by decide +kernel
theorem dX12_child_19 : decode cX12_child 19 = .ok (.invokestatic 122, 3) := by decide +kernel
theorem dX12_child_22 : decode cX12_child 22 = .ok (.ifCond .ne 8, 3) := by decide +kernel
theorem dX12_child_25 : decode cX12_child 25 = .ok (.aload_n 0, 1) := by decide +kernel
theorem dX12_child_26 : decode cX12_child 26 = .ok (.invokevirtual 285, 3) := by decide +kernel
theorem dX12_child_29 : decode cX12_child 29 = .ok (.ireturn, 1) := by decide +kernel
theorem dX12_child_30 : decode cX12_child 30 = .ok (.iload_n 2, 1) := by decide +kernel
theorem dX12_child_31 : decode cX12_child 31 = .ok (.tableswitch 91 0 5 #[37, 44, 51, 58, 67, 82], 37) := by decide +kernel
theorem dX12_child_68 : decode cX12_child 68 = .ok (.aload_n 0, 1) := by decide +kernel
theorem dX12_child_69 : decode cX12_child 69 = .ok (.getfield 24, 3) := by decide +kernel
theorem dX12_child_72 : decode cX12_child 72 = .ok (.iload_n 1, 1) := by decide +kernel
theorem dX12_child_73 : decode cX12_child 73 = .ok (.iaload, 1) := by decide +kernel
theorem dX12_child_74 : decode cX12_child 74 = .ok (.ireturn, 1) := by decide +kernel
theorem dX12_child_75 : decode cX12_child 75 = .ok (.aload_n 0, 1) := by decide +kernel
theorem dX12_child_76 : decode cX12_child 76 = .ok (.getfield 27, 3) := by decide +kernel
theorem dX12_child_79 : decode cX12_child 79 = .ok (.iload_n 1, 1) := by decide +kernel
theorem dX12_child_80 : decode cX12_child 80 = .ok (.iaload, 1) := by decide +kernel
theorem dX12_child_81 : decode cX12_child 81 = .ok (.ireturn, 1) := by decide +kernel
theorem dX12_child_82 : decode cX12_child 82 = .ok (.aload_n 0, 1) := by decide +kernel
theorem dX12_child_83 : decode cX12_child 83 = .ok (.getfield 30, 3) := by decide +kernel
theorem dX12_child_86 : decode cX12_child 86 = .ok (.iload_n 1, 1) := by decide +kernel
theorem dX12_child_87 : decode cX12_child 87 = .ok (.iaload, 1) := by decide +kernel
theorem dX12_child_88 : decode cX12_child 88 = .ok (.ireturn, 1) := by decide +kernel
theorem dX12_child_89 : decode cX12_child 89 = .ok (.aload_n 0, 1) := by decide +kernel
theorem dX12_child_90 : decode cX12_child 90 = .ok (.getfield 36, 3) := by decide +kernel
theorem dX12_child_93 : decode cX12_child 93 = .ok (.iload_n 1, 1) := by decide +kernel
theorem dX12_child_94 : decode cX12_child 94 = .ok (.invokestatic 277, 3) := by decide +kernel
theorem dX12_child_97 : decode cX12_child 97 = .ok (.ireturn, 1) := by decide +kernel
theorem dX12_child_98 : decode cX12_child 98 = .ok (.aload_n 0, 1) := by decide +kernel
theorem dX12_child_99 : decode cX12_child 99 = .ok (.getfield 36, 3) := by decide +kernel
theorem dX12_child_102 : decode cX12_child 102 = .ok (.bipush 41, 2) := by decide +kernel
theorem dX12_child_104 : decode cX12_child 104 = .ok (.iaload, 1) := by decide +kernel
theorem dX12_child_105 : decode cX12_child 105 = .ok (.iload_n 1, 1) := by decide +kernel
theorem dX12_child_106 : decode cX12_child 106 = .ok (.invokestatic 269, 3) := by decide +kernel
theorem dX12_child_109 : decode cX12_child 109 = .ok (.invokestatic 151, 3) := by decide +kernel
theorem dX12_child_112 : decode cX12_child 112 = .ok (.ireturn, 1) := by decide +kernel
theorem dX12_child_113 : decode cX12_child 113 = .ok (.aload_n 0, 1) := by decide +kernel
theorem dX12_child_114 : decode cX12_child 114 = .ok (.getfield 36, 3) := by decide +kernel
theorem dX12_child_117 : decode cX12_child 117 = .ok (.iload_n 1, 1) := by decide +kernel
theorem dX12_child_118 : decode cX12_child 118 = .ok (.invokestatic 129, 3) := by decide +kernel
theorem dX12_child_121 : decode cX12_child 121 = .ok (.ireturn, 1) := by decide +kernel
theorem dX12_child_122 : decode cX12_child 122 = .ok (.aload_n 0, 1) := by decide +kernel
theorem dX12_child_123 : decode cX12_child 123 = .ok (.aload_n 0, 1) := by decide +kernel
theorem dX12_child_124 : decode cX12_child 124 = .ok (.getfield 36, 3) := by decide +kernel
theorem dX12_child_127 : decode cX12_child 127 = .ok (.iload_n 1, 1) := by decide +kernel
theorem dX12_child_128 : decode cX12_child 128 = .ok (.invokevirtual 297, 3) := by decide +kernel
theorem dX12_child_131 : decode cX12_child 131 = .ok (.ireturn, 1) := by decide +kernel
theorem dX12_set_0 : decode cX12_set 0 = .ok (.aload_n 0, 1) := by decide +kernel
theorem dX12_set_1 : decode cX12_set 1 = .ok (.iconst 0, 1) := by decide +kernel
theorem dX12_set_2 : decode cX12_set 2 = .ok (.putfield 112, 3) := by decide +kernel
theorem dX12_set_5 : decode cX12_set 5 = .ok (.iload_n 1, 1) := by decide +kernel
theorem dX12_set_6 : decode cX12_set 6 = .ok (.iconst 1, 1) := by decide +kernel
theorem dX12_set_7 : decode cX12_set 7 = .ok (.if_icmp .ne 16, 3) := by decide +kernel
theorem dX12_set_10 : decode cX12_set 10 = .ok (.aload_n 0, 1) := by decide +kernel
theorem dX12_set_11 : decode cX12_set 11 = .ok (.getfield 36, 3) := by decide +kernel
theorem dX12_set_14 : decode cX12_set 14 = .ok (.bipush 41, 2) := by decide +kernel
theorem dX12_set_16 : decode cX12_set 16 = .ok (.iaload, 1) := by decide +kernel
theorem dX12_set_17 : decode cX12_set 17 = .ok (.invokestatic 251, 3) := by decide +kernel
theorem dX12_set_20 : decode cX12_set 20 = .ok (.goto 4, 3) := by decide +kernel
theorem dX12_set_23 : decode cX12_set 23 = .ok (.iconst 0, 1) := by decide +kernel
theorem dX12_set_24 : decode cX12_set 24 = .ok (.istore_n 3, 1) := by decide +kernel
theorem dX12_set_25 : decode cX12_set 25 = .ok (.iload_n 1, 1) := by decide +kernel
theorem dX12_set_26 : decode cX12_set 26 = .ok (.i2l, 1) := by decide +kernel
theorem dX12_set_27 : decode cX12_set 27 = .ok (.lconst 0, 1) := by decide +kernel
theorem dX12_set_28 : decode cX12_set 28 = .ok (.lconst 1, 1) := by decide +kernel
theorem dX12_set_29 : decode cX12_set 29 = .ok (.invokestatic 122, 3) := by decide +kernel
theorem dX12_set_32 : decode cX12_set 32 = .ok (.ifCond .eq 27, 3) := by decide +kernel
theorem dX12_set_35 : decode cX12_set 35 = .ok (.iload_n 2, 1) := by decide +kernel
theorem dX12_set_36 : decode cX12_set 36 = .ok (.i2l, 1) := by decide +kernel
theorem dX12_set_37 : decode cX12_set 37 = .ok (.iload_n 3, 1) := by decide +kernel
theorem dX12_set_38 : decode cX12_set 38 = .ok (.i2l, 1) := by decide +kernel
theorem dX12_set_39 : decode cX12_set 39 = .ok (.iload_n 1, 1) := by decide +kernel
theorem dX12_set_40 : decode cX12_set 40 = .ok (.iconst 1, 1) := by decide +kernel
theorem dX12_set_41 : decode cX12_set 41 = .ok (.if_icmp .ne 9, 3) := by decide +kernel
theorem dX12_set_44 : decode cX12_set 44 = .ok (.ldc2_w 300, 3) := by decide +kernel
theorem dX12_set_47 : decode cX12_set 47 = .ok (.goto 6, 3) := by decide +kernel
theorem dX12_set_50 : decode cX12_set 50 = .ok (.ldc2_w 302, 3) := by decide +kernel
theorem dX12_set_53 : decode cX12_set 53 = .ok (.invokestatic 122, 3) := by decide +kernel
theorem dX12_set_56 : decode cX12_set 56 = .ok (.ifCond .ne 5, 3) := by decide +kernel
theorem dX12_set_59 : decode cX12_set 59 = .ok (.iconst (-1), 1) := by decide +kernel
theorem dX12_set_60 : decode cX12_set 60 = .ok (.ireturn, 1) := by decide +kernel
theorem dX12_set_61 : decode cX12_set 61 = .ok (.aload_n 0, 1) := by decide +kernel
theorem dX12_set_62 : decode cX12_set 62 = .ok (.getfield 33, 3) := by decide +kernel
theorem dX12_set_65 : decode cX12_set 65 = .ok (.iload_n 1, 1) := by decide +kernel
theorem dX12_set_66 : decode cX12_set 66 = .ok (.iaload, 1) := by decide +kernel
theorem dX12_set_67 : decode cX12_set 67 = .ok (.istore 4, 2) := by decide +kernel
theorem dX12_set_69 : decode cX12_set 69 = .ok (.aload_n 0, 1) := by decide +kernel
theorem dX12_set_70 : decode cX12_set 70 = .ok (.getfield 33, 3) := by decide +kernel
theorem dX12_set_73 : decode cX12_set 73 = .ok (.iload_n 1, 1) := by decide +kernel
theorem dX12_set_74 : decode cX12_set 74 = .ok (.iload_n 2, 1) := by decide +kernel
theorem dX12_set_75 : decode cX12_set 75 = .ok (.iastore, 1) := by decide +kernel
theorem dX12_set_76 : decode cX12_set 76 = .ok (.iload 4, 2) := by decide +kernel
theorem dX12_set_78 : decode cX12_set 78 = .ok (.ireturn, 1) := by decide +kernel
theorem dX12_sheet_0 : decode cX12_sheet 0 = .ok (.aload_n 0, 1) := by decide +kernel
theorem dX12_sheet_1 : decode cX12_sheet 1 = .ok (.iconst 0, 1) := by decide +kernel
theorem dX12_sheet_2 : decode cX12_sheet 2 = .ok (.putfield 112, 3) := by decide +kernel
theorem dX12_sheet_5 : decode cX12_sheet 5 = .ok (.iload_n 1, 1) := by decide +kernel
theorem dX12_sheet_6 : decode cX12_sheet 6 = .ok (.i2l, 1) := by decide +kernel
theorem dX12_sheet_7 : decode cX12_sheet 7 = .ok (.lconst 0, 1) := by decide +kernel
theorem dX12_sheet_8 : decode cX12_sheet 8 = .ok (.ldc2_w 304, 3) := by decide +kernel
theorem dX12_sheet_11 : decode cX12_sheet 11 = .ok (.invokestatic 122, 3) := by decide +kernel
theorem dX12_sheet_14 : decode cX12_sheet 14 = .ok (.ifCond .eq 9, 3) := by decide +kernel
theorem dX12_sheet_17 : decode cX12_sheet 17 = .ok (.iload_n 2, 1) := by decide +kernel
theorem dX12_sheet_18 : decode cX12_sheet 18 = .ok (.bipush 8, 2) := by decide +kernel
theorem dX12_sheet_20 : decode cX12_sheet 20 = .ok (.if_icmp .le 5, 3) := by decide +kernel
theorem dX12_sheet_23 : decode cX12_sheet 23 = .ok (.iconst (-1), 1) := by decide +kernel
theorem dX12_sheet_24 : decode cX12_sheet 24 = .ok (.ireturn, 1) := by decide +kernel
theorem dX12_sheet_25 : decode cX12_sheet 25 = .ok (.iload_n 1, 1) := by decide +kernel
theorem dX12_sheet_26 : decode cX12_sheet 26 = .ok (.iconst 3, 1) := by decide +kernel
theorem dX12_sheet_27 : decode cX12_sheet 27 = .ok (.if_icmp .eq 10, 3) := by decide +kernel
theorem dX12_sheet_30 : decode cX12_sheet 30 = .ok (.iload_n 2, 1) := by decide +kernel
theorem dX12_sheet_31 : decode cX12_sheet 31 = .ok (.ifCond .ge 6, 3) := by decide +kernel
theorem dX12_sheet_34 : decode cX12_sheet 34 = .ok (.bipush (-2), 2) := by decide +kernel
theorem dX12_sheet_36 : decode cX12_sheet 36 = .ok (.ireturn, 1) := by decide +kernel
theorem dX12_sheet_37 : decode cX12_sheet 37 = .ok (.iconst 0, 1) := by decide +kernel
theorem dX12_sheet_38 : decode cX12_sheet 38 = .ok (.istore 5, 2) := by decide +kernel
theorem dX12_sheet_40 : decode cX12_sheet 40 = .ok (.iload_n 3, 1) := by decide +kernel
theorem dX12_sheet_41 : decode cX12_sheet 41 = .ok (.istore 6, 2) := by decide +kernel
theorem dX12_sheet_43 : decode cX12_sheet 43 = .ok (.iconst 0, 1) := by decide +kernel
theorem dX12_sheet_44 : decode cX12_sheet 44 = .ok (.istore 7, 2) := by decide +kernel
theorem dX12_sheet_46 : decode cX12_sheet 46 = .ok (.iload 7, 2) := by decide +kernel
theorem dX12_sheet_48 : decode cX12_sheet 48 = .ok (.aload_n 0, 1) := by decide +kernel
theorem dX12_sheet_49 : decode cX12_sheet 49 = .ok (.getfield 126, 3) := by decide +kernel
theorem dX12_sheet_52 : decode cX12_sheet 52 = .ok (.if_icmp .ge 95, 3) := by decide +kernel
theorem dX12_sheet_55 : decode cX12_sheet 55 = .ok (.iload_n 1, 1) := by decide +kernel
theorem dX12_sheet_56 : decode cX12_sheet 56 = .ok (.ifCond .ne 9, 3) := by decide +kernel
theorem dX12_sheet_59 : decode cX12_sheet 59 = .ok (.iload 6, 2) := by decide +kernel
theorem dX12_sheet_61 : decode cX12_sheet 61 = .ok (.i2b, 1) := by decide +kernel
theorem dX12_sheet_62 : decode cX12_sheet 62 = .ok (.goto 16, 3) := by decide +kernel
theorem dX12_sheet_65 : decode cX12_sheet 65 = .ok (.iload_n 1, 1) := by decide +kernel
theorem dX12_sheet_66 : decode cX12_sheet 66 = .ok (.iconst 1, 1) := by decide +kernel
theorem dX12_sheet_67 : decode cX12_sheet 67 = .ok (.if_icmp .ne 9, 3) := by decide +kernel
theorem dX12_sheet_70 : decode cX12_sheet 70 = .ok (.iload 6, 2) := by decide +kernel
theorem dX12_sheet_72 : decode cX12_sheet 72 = .ok (.i2s, 1) := by decide +kernel
theorem dX12_sheet_73 : decode cX12_sheet 73 = .ok (.goto 5, 3) := by decide +kernel
theorem dX12_sheet_76 : decode cX12_sheet 76 = .ok (.iload 6, 2) := by decide +kernel
theorem dX12_sheet_78 : decode cX12_sheet 78 = .ok (.istore 8, 2) := by decide +kernel
theorem dX12_sheet_80 : decode cX12_sheet 80 = .ok (.aload_n 0, 1) := by decide +kernel
theorem dX12_sheet_81 : decode cX12_sheet 81 = .ok (.getfield 36, 3) := by decide +kernel
theorem dX12_sheet_84 : decode cX12_sheet 84 = .ok (.bipush 25, 2) := by decide +kernel
theorem dX12_sheet_86 : decode cX12_sheet 86 = .ok (.iconst 2, 1) := by decide +kernel
theorem dX12_sheet_87 : decode cX12_sheet 87 = .ok (.iload 7, 2) := by decide +kernel
theorem dX12_sheet_89 : decode cX12_sheet 89 = .ok (.imul, 1) := by decide +kernel
theorem dX12_sheet_90 : decode cX12_sheet 90 = .ok (.iadd, 1) := by decide +kernel
theorem dX12_sheet_91 : decode cX12_sheet 91 = .ok (.iconst 1, 1) := by decide +kernel
theorem dX12_sheet_92 : decode cX12_sheet 92 = .ok (.iadd, 1) := by decide +kernel
theorem dX12_sheet_93 : decode cX12_sheet 93 = .ok (.iload_n 1, 1) := by decide +kernel
theorem dX12_sheet_94 : decode cX12_sheet 94 = .ok (.iconst 3, 1) := by decide +kernel
theorem dX12_sheet_95 : decode cX12_sheet 95 = .ok (.if_icmp .eq 9, 3) := by decide +kernel
theorem dX12_sheet_98 : decode cX12_sheet 98 = .ok (.iload 7, 2) := by decide +kernel
theorem dX12_sheet_100 : decode cX12_sheet 100 = .ok (.iload_n 2, 1) := by decide +kernel
theorem dX12_sheet_101 : decode cX12_sheet 101 = .ok (.if_icmp .lt 7, 3) := by decide +kernel
theorem dX12_sheet_104 : decode cX12_sheet 104 = .ok (.iconst 0, 1) := by decide +kernel
theorem dX12_sheet_105 : decode cX12_sheet 105 = .ok (.goto 14, 3) := by decide +kernel
theorem dX12_sheet_108 : decode cX12_sheet 108 = .ok (.iconst 0, 1) := by decide +kernel
theorem dX12_sheet_109 : decode cX12_sheet 109 = .ok (.bipush 9, 2) := by decide +kernel
theorem dX12_sheet_111 : decode cX12_sheet 111 = .ok (.iload 8, 2) := by decide +kernel
theorem dX12_sheet_113 : decode cX12_sheet 113 = .ok (.invokestatic 142, 3) := by decide +kernel
theorem dX12_sheet_116 : decode cX12_sheet 116 = .ok (.invokestatic 259, 3) := by decide +kernel
theorem dX12_sheet_119 : decode cX12_sheet 119 = .ok (.iastore, 1) := by decide +kernel
theorem dX12_sheet_120 : decode cX12_sheet 120 = .ok (.iload 5, 2) := by decide +kernel
theorem dX12_sheet_122 : decode cX12_sheet 122 = .ok (.aload_n 0, 1) := by decide +kernel
theorem dX12_sheet_123 : decode cX12_sheet 123 = .ok (.getfield 36, 3) := by decide +kernel
theorem dX12_sheet_126 : decode cX12_sheet 126 = .ok (.iload 7, 2) := by decide +kernel
theorem dX12_sheet_128 : decode cX12_sheet 128 = .ok (.invokestatic 277, 3) := by decide +kernel
theorem dX12_sheet_131 : decode cX12_sheet 131 = .ok (.iadd, 1) := by decide +kernel
theorem dX12_sheet_132 : decode cX12_sheet 132 = .ok (.istore 5, 2) := by decide +kernel
theorem dX12_sheet_134 : decode cX12_sheet 134 = .ok (.iload 6, 2) := by decide +kernel
theorem dX12_sheet_136 : decode cX12_sheet 136 = .ok (.iload 4, 2) := by decide +kernel
theorem dX12_sheet_138 : decode cX12_sheet 138 = .ok (.iadd, 1) := by decide +kernel
theorem dX12_sheet_139 : decode cX12_sheet 139 = .ok (.istore 6, 2) := by decide +kernel
theorem dX12_sheet_141 : decode cX12_sheet 141 = .ok (.iinc 7 1, 3) := by decide +kernel
theorem dX12_sheet_144 : decode cX12_sheet 144 = .ok (.goto (-98), 3) := by decide +kernel
theorem dX12_sheet_147 : decode cX12_sheet 147 = .ok (.iload_n 1, 1) := by decide +kernel
theorem dX12_sheet_148 : decode cX12_sheet 148 = .ok (.iconst 3, 1) := by decide +kernel
theorem dX12_sheet_149 : decode cX12_sheet 149 = .ok (.if_icmp .ne 8, 3) := by decide +kernel
theorem dX12_sheet_152 : decode cX12_sheet 152 = .ok (.bipush (-3), 2) := by decide +kernel
theorem dX12_sheet_154 : decode cX12_sheet 154 = .ok (.goto 5, 3) := by decide +kernel
theorem dX12_sheet_157 : decode cX12_sheet 157 = .ok (.iload 5, 2) := by decide +kernel
theorem dX12_sheet_159 : decode cX12_sheet 159 = .ok (.ireturn, 1) := by decide +kernel
theorem dX12_putsBy_0 : decode cX12_putsBy 0 = .ok (.iconst 0, 1) := by decide +kernel
theorem dX12_putsBy_1 : decode cX12_putsBy 1 = .ok (.istore_n 1, 1) := by decide +kernel
theorem dX12_putsBy_2 : decode cX12_putsBy 2 = .ok (.iload_n 1, 1) := by decide +kernel
theorem dX12_putsBy_3 : decode cX12_putsBy 3 = .ok (.bipush 43, 2) := by decide +kernel
theorem dX12_putsBy_5 : decode cX12_putsBy 5 = .ok (.if_icmp .ge 29, 3) := by decide +kernel
theorem dX12_putsBy_8 : decode cX12_putsBy 8 = .ok (.aload_n 0, 1) := by decide +kernel
theorem dX12_putsBy_9 : decode cX12_putsBy 9 = .ok (.getfield 60, 3) := by decide +kernel
theorem dX12_putsBy_12 : decode cX12_putsBy 12 = .ok (.bipush 43, 2) := by decide +kernel
theorem dX12_putsBy_14 : decode cX12_putsBy 14 = .ok (.aload_n 0, 1) := by decide +kernel
theorem dX12_putsBy_15 : decode cX12_putsBy 15 = .ok (.getfield 191, 3) := by decide +kernel
theorem dX12_putsBy_18 : decode cX12_putsBy 18 = .ok (.imul, 1) := by decide +kernel
theorem dX12_putsBy_19 : decode cX12_putsBy 19 = .ok (.iload_n 1, 1) := by decide +kernel
theorem dX12_putsBy_20 : decode cX12_putsBy 20 = .ok (.iadd, 1) := by decide +kernel
theorem dX12_putsBy_21 : decode cX12_putsBy 21 = .ok (.aload_n 0, 1) := by decide +kernel
theorem dX12_putsBy_22 : decode cX12_putsBy 22 = .ok (.getfield 36, 3) := by decide +kernel
theorem dX12_putsBy_25 : decode cX12_putsBy 25 = .ok (.iload_n 1, 1) := by decide +kernel
theorem dX12_putsBy_26 : decode cX12_putsBy 26 = .ok (.iaload, 1) := by decide +kernel
theorem dX12_putsBy_27 : decode cX12_putsBy 27 = .ok (.iastore, 1) := by decide +kernel
theorem dX12_putsBy_28 : decode cX12_putsBy 28 = .ok (.iinc 1 1, 3) := by decide +kernel
theorem dX12_putsBy_31 : decode cX12_putsBy 31 = .ok (.goto (-29), 3) := by decide +kernel
theorem dX12_putsBy_34 : decode cX12_putsBy 34 = .ok (.return_, 1) := by decide +kernel
theorem dX12_adds_0 : decode cX12_adds 0 = .ok (.aload_n 0, 1) := by decide +kernel
theorem dX12_adds_1 : decode cX12_adds 1 = .ok (.dup, 1) := by decide +kernel
theorem dX12_adds_2 : decode cX12_adds 2 = .ok (.getfield 191, 3) := by decide +kernel
theorem dX12_adds_5 : decode cX12_adds 5 = .ok (.iconst 1, 1) := by decide +kernel
theorem dX12_adds_6 : decode cX12_adds 6 = .ok (.iadd, 1) := by decide +kernel
theorem dX12_adds_7 : decode cX12_adds 7 = .ok (.putfield 191, 3) := by decide +kernel
theorem dX12_adds_10 : decode cX12_adds 10 = .ok (.aload_n 0, 1) := by decide +kernel
theorem dX12_adds_11 : decode cX12_adds 11 = .ok (.getfield 191, 3) := by decide +kernel
theorem dX12_adds_14 : decode cX12_adds 14 = .ok (.bipush 15, 2) := by decide +kernel
theorem dX12_adds_16 : decode cX12_adds 16 = .ok (.if_icmp .le 43, 3) := by decide +kernel
theorem dX12_adds_19 : decode cX12_adds 19 = .ok (.iconst 0, 1) := by decide +kernel
theorem dX12_adds_20 : decode cX12_adds 20 = .ok (.istore_n 2, 1) := by decide +kernel
theorem dX12_adds_21 : decode cX12_adds 21 = .ok (.iload_n 2, 1) := by decide +kernel
theorem dX12_adds_22 : decode cX12_adds 22 = .ok (.sipush 645, 3) := by decide +kernel
theorem dX12_adds_25 : decode cX12_adds 25 = .ok (.if_icmp .ge 24, 3) := by decide +kernel
theorem dX12_adds_28 : decode cX12_adds 28 = .ok (.aload_n 0, 1) := by decide +kernel
theorem dX12_adds_29 : decode cX12_adds 29 = .ok (.getfield 60, 3) := by decide +kernel
theorem dX12_adds_32 : decode cX12_adds 32 = .ok (.iload_n 2, 1) := by decide +kernel
theorem dX12_adds_33 : decode cX12_adds 33 = .ok (.aload_n 0, 1) := by decide +kernel
theorem dX12_adds_34 : decode cX12_adds 34 = .ok (.getfield 60, 3) := by decide +kernel
theorem dX12_adds_37 : decode cX12_adds 37 = .ok (.iload_n 2, 1) := by decide +kernel
theorem dX12_adds_38 : decode cX12_adds 38 = .ok (.bipush 43, 2) := by decide +kernel
theorem dX12_adds_40 : decode cX12_adds 40 = .ok (.iadd, 1) := by decide +kernel
theorem dX12_adds_41 : decode cX12_adds 41 = .ok (.iaload, 1) := by decide +kernel
theorem dX12_adds_42 : decode cX12_adds 42 = .ok (.iastore, 1) := by decide +kernel
theorem dX12_adds_43 : decode cX12_adds 43 = .ok (.iinc 2 1, 3) := by decide +kernel
theorem dX12_adds_46 : decode cX12_adds 46 = .ok (.goto (-25), 3) := by decide +kernel
theorem dX12_adds_49 : decode cX12_adds 49 = .ok (.aload_n 0, 1) := by decide +kernel
theorem dX12_adds_50 : decode cX12_adds 50 = .ok (.dup, 1) := by decide +kernel
theorem dX12_adds_51 : decode cX12_adds 51 = .ok (.getfield 191, 3) := by decide +kernel
theorem dX12_adds_54 : decode cX12_adds 54 = .ok (.iconst 1, 1) := by decide +kernel
theorem dX12_adds_55 : decode cX12_adds 55 = .ok (.isub, 1) := by decide +kernel
theorem dX12_adds_56 : decode cX12_adds 56 = .ok (.putfield 191, 3) := by decide +kernel
theorem dX12_adds_59 : decode cX12_adds 59 = .ok (.iload_n 1, 1) := by decide +kernel
theorem dX12_adds_60 : decode cX12_adds 60 = .ok (.ireturn, 1) := by decide +kernel
theorem dX12_counts_0 : decode cX12_counts 0 = .ok (.iload_n 1, 1) := by decide +kernel
theorem dX12_counts_1 : decode cX12_counts 1 = .ok (.ifCond .ge 7, 3) := by decide +kernel
theorem dX12_counts_4 : decode cX12_counts 4 = .ok (.iload_n 1, 1) := by decide +kernel
theorem dX12_counts_5 : decode cX12_counts 5 = .ok (.goto 8, 3) := by decide +kernel
theorem dX12_counts_8 : decode cX12_counts 8 = .ok (.aload_n 0, 1) := by decide +kernel
theorem dX12_counts_9 : decode cX12_counts 9 = .ok (.iload_n 1, 1) := by decide +kernel
theorem dX12_counts_10 : decode cX12_counts 10 = .ok (.invokevirtual 306, 3) := by decide +kernel
theorem dX12_counts_13 : decode cX12_counts 13 = .ok (.ireturn, 1) := by decide +kernel
theorem dX12_undo_0 : decode cX12_undo 0 = .ok (.aload_n 0, 1) := by decide +kernel
theorem dX12_undo_1 : decode cX12_undo 1 = .ok (.iconst 0, 1) := by decide +kernel
theorem dX12_undo_2 : decode cX12_undo 2 = .ok (.putfield 112, 3) := by decide +kernel
theorem dX12_undo_5 : decode cX12_undo 5 = .ok (.aload_n 0, 1) := by decide +kernel
theorem dX12_undo_6 : decode cX12_undo 6 = .ok (.getfield 191, 3) := by decide +kernel
theorem dX12_undo_9 : decode cX12_undo 9 = .ok (.ifCond .ne 5, 3) := by decide +kernel
theorem dX12_undo_12 : decode cX12_undo 12 = .ok (.iconst (-1), 1) := by decide +kernel
theorem dX12_undo_13 : decode cX12_undo 13 = .ok (.ireturn, 1) := by decide +kernel
theorem dX12_undo_14 : decode cX12_undo 14 = .ok (.aload_n 0, 1) := by decide +kernel
theorem dX12_undo_15 : decode cX12_undo 15 = .ok (.dup, 1) := by decide +kernel
theorem dX12_undo_16 : decode cX12_undo 16 = .ok (.getfield 191, 3) := by decide +kernel
theorem dX12_undo_19 : decode cX12_undo 19 = .ok (.iconst 1, 1) := by decide +kernel
theorem dX12_undo_20 : decode cX12_undo 20 = .ok (.isub, 1) := by decide +kernel
theorem dX12_undo_21 : decode cX12_undo 21 = .ok (.putfield 191, 3) := by decide +kernel
theorem dX12_undo_24 : decode cX12_undo 24 = .ok (.iconst 0, 1) := by decide +kernel
theorem dX12_undo_25 : decode cX12_undo 25 = .ok (.istore_n 1, 1) := by decide +kernel
theorem dX12_undo_26 : decode cX12_undo 26 = .ok (.iload_n 1, 1) := by decide +kernel
theorem dX12_undo_27 : decode cX12_undo 27 = .ok (.bipush 43, 2) := by decide +kernel
theorem dX12_undo_29 : decode cX12_undo 29 = .ok (.if_icmp .ge 29, 3) := by decide +kernel
theorem dX12_undo_32 : decode cX12_undo 32 = .ok (.aload_n 0, 1) := by decide +kernel
theorem dX12_undo_33 : decode cX12_undo 33 = .ok (.getfield 36, 3) := by decide +kernel
theorem dX12_undo_36 : decode cX12_undo 36 = .ok (.iload_n 1, 1) := by decide +kernel
theorem dX12_undo_37 : decode cX12_undo 37 = .ok (.aload_n 0, 1) := by decide +kernel
theorem dX12_undo_38 : decode cX12_undo 38 = .ok (.getfield 60, 3) := by decide +kernel
theorem dX12_undo_41 : decode cX12_undo 41 = .ok (.bipush 43, 2) := by decide +kernel
theorem dX12_undo_43 : decode cX12_undo 43 = .ok (.aload_n 0, 1) := by decide +kernel
theorem dX12_undo_44 : decode cX12_undo 44 = .ok (.getfield 191, 3) := by decide +kernel
theorem dX12_undo_47 : decode cX12_undo 47 = .ok (.imul, 1) := by decide +kernel
theorem dX12_undo_48 : decode cX12_undo 48 = .ok (.iload_n 1, 1) := by decide +kernel
theorem dX12_undo_49 : decode cX12_undo 49 = .ok (.iadd, 1) := by decide +kernel
theorem dX12_undo_50 : decode cX12_undo 50 = .ok (.iaload, 1) := by decide +kernel
theorem dX12_undo_51 : decode cX12_undo 51 = .ok (.iastore, 1) := by decide +kernel
theorem dX12_undo_52 : decode cX12_undo 52 = .ok (.iinc 1 1, 3) := by decide +kernel
theorem dX12_undo_55 : decode cX12_undo 55 = .ok (.goto (-29), 3) := by decide +kernel
theorem dX12_undo_58 : decode cX12_undo 58 = .ok (.aload_n 0, 1) := by decide +kernel
theorem dX12_undo_59 : decode cX12_undo 59 = .ok (.getfield 191, 3) := by decide +kernel
theorem dX12_undo_62 : decode cX12_undo 62 = .ok (.ireturn, 1) := by decide +kernel
theorem dX12_spellGoes_0 : decode cX12_spellGoes 0 = .ok (.iconst 0, 1) := by decide +kernel
theorem dX12_spellGoes_1 : decode cX12_spellGoes 1 = .ok (.istore_n 2, 1) := by decide +kernel
theorem dX12_spellGoes_2 : decode cX12_spellGoes 2 = .ok (.iload_n 2, 1) := by decide +kernel
theorem dX12_spellGoes_3 : decode cX12_spellGoes 3 = .ok (.aload_n 0, 1) := by decide +kernel
theorem dX12_spellGoes_4 : decode cX12_spellGoes 4 = .ok (.getfield 13, 3) := by decide +kernel
theorem dX12_spellGoes_7 : decode cX12_spellGoes 7 = .ok (.if_icmp .ge 16, 3) := by decide +kernel
theorem dX12_spellGoes_10 : decode cX12_spellGoes 10 = .ok (.aload_n 0, 1) := by decide +kernel
theorem dX12_spellGoes_11 : decode cX12_spellGoes 11 = .ok (.getfield 63, 3) := by decide +kernel
theorem dX12_spellGoes_14 : decode cX12_spellGoes 14 = .ok (.iload_n 2, 1) := by decide +kernel
theorem dX12_spellGoes_15 : decode cX12_spellGoes 15 = .ok (.iconst 0, 1) := by decide +kernel
theorem dX12_spellGoes_16 : decode cX12_spellGoes 16 = .ok (.iastore, 1) := by decide +kernel
theorem dX12_spellGoes_17 : decode cX12_spellGoes 17 = .ok (.iinc 2 1, 3) := by decide +kernel
theorem dX12_spellGoes_20 : decode cX12_spellGoes 20 = .ok (.goto (-18), 3) := by decide +kernel
theorem dX12_spellGoes_23 : decode cX12_spellGoes 23 = .ok (.iconst 0, 1) := by decide +kernel
theorem dX12_spellGoes_24 : decode cX12_spellGoes 24 = .ok (.istore_n 2, 1) := by decide +kernel
theorem dX12_spellGoes_25 : decode cX12_spellGoes 25 = .ok (.iload_n 2, 1) := by decide +kernel
theorem dX12_spellGoes_26 : decode cX12_spellGoes 26 = .ok (.aload_n 0, 1) := by decide +kernel
theorem dX12_spellGoes_27 : decode cX12_spellGoes 27 = .ok (.getfield 126, 3) := by decide +kernel
theorem dX12_spellGoes_30 : decode cX12_spellGoes 30 = .ok (.if_icmp .ge 36, 3) := by decide +kernel
theorem dX12_spellGoes_33 : decode cX12_spellGoes 33 = .ok (.aload_n 1, 1) := by decide +kernel
theorem dX12_spellGoes_34 : decode cX12_spellGoes 34 = .ok (.iload_n 2, 1) := by decide +kernel
theorem dX12_spellGoes_35 : decode cX12_spellGoes 35 = .ok (.invokestatic 129, 3) := by decide +kernel
theorem dX12_spellGoes_38 : decode cX12_spellGoes 38 = .ok (.ifCond .lt 22, 3) := by decide +kernel
theorem dX12_spellGoes_41 : decode cX12_spellGoes 41 = .ok (.aload_n 0, 1) := by decide +kernel
theorem dX12_spellGoes_42 : decode cX12_spellGoes 42 = .ok (.getfield 63, 3) := by decide +kernel
theorem dX12_spellGoes_45 : decode cX12_spellGoes 45 = .ok (.aload_n 1, 1) := by decide +kernel
theorem dX12_spellGoes_46 : decode cX12_spellGoes 46 = .ok (.iload_n 2, 1) := by decide +kernel
theorem dX12_spellGoes_47 : decode cX12_spellGoes 47 = .ok (.invokestatic 129, 3) := by decide +kernel
theorem dX12_spellGoes_50 : decode cX12_spellGoes 50 = .ok (.dup2, 1) := by decide +kernel
theorem dX12_spellGoes_51 : decode cX12_spellGoes 51 = .ok (.iaload, 1) := by decide +kernel
theorem dX12_spellGoes_52 : decode cX12_spellGoes 52 = .ok (.aload_n 0, 1) := by decide +kernel
theorem dX12_spellGoes_53 : decode cX12_spellGoes 53 = .ok (.aload_n 1, 1) := by decide +kernel
theorem dX12_spellGoes_54 : decode cX12_spellGoes 54 = .ok (.iload_n 2, 1) := by decide +kernel
theorem dX12_spellGoes_55 : decode cX12_spellGoes 55 = .ok (.invokevirtual 297, 3) := by decide +kernel
theorem dX12_spellGoes_58 : decode cX12_spellGoes 58 = .ok (.iadd, 1) := by decide +kernel
theorem dX12_spellGoes_59 : decode cX12_spellGoes 59 = .ok (.iastore, 1) := by decide +kernel
theorem dX12_spellGoes_60 : decode cX12_spellGoes 60 = .ok (.iinc 2 1, 3) := by decide +kernel
theorem dX12_spellGoes_63 : decode cX12_spellGoes 63 = .ok (.goto (-38), 3) := by decide +kernel
theorem dX12_spellGoes_66 : decode cX12_spellGoes 66 = .ok (.iconst 0, 1) := by decide +kernel
theorem dX12_spellGoes_67 : decode cX12_spellGoes 67 = .ok (.istore_n 2, 1) := by decide +kernel
theorem dX12_spellGoes_68 : decode cX12_spellGoes 68 = .ok (.iload_n 2, 1) := by decide +kernel
theorem dX12_spellGoes_69 : decode cX12_spellGoes 69 = .ok (.aload_n 0, 1) := by decide +kernel
theorem dX12_spellGoes_70 : decode cX12_spellGoes 70 = .ok (.getfield 13, 3) := by decide +kernel
theorem dX12_spellGoes_73 : decode cX12_spellGoes 73 = .ok (.if_icmp .ge 28, 3) := by decide +kernel
theorem dX12_spellGoes_76 : decode cX12_spellGoes 76 = .ok (.aload_n 1, 1) := by decide +kernel
theorem dX12_spellGoes_77 : decode cX12_spellGoes 77 = .ok (.iload_n 2, 1) := by decide +kernel
theorem dX12_spellGoes_78 : decode cX12_spellGoes 78 = .ok (.sipush 999, 3) := by decide +kernel
theorem dX12_spellGoes_81 : decode cX12_spellGoes 81 = .ok (.aload_n 1, 1) := by decide +kernel
theorem dX12_spellGoes_82 : decode cX12_spellGoes 82 = .ok (.iload_n 2, 1) := by decide +kernel
theorem dX12_spellGoes_83 : decode cX12_spellGoes 83 = .ok (.iaload, 1) := by decide +kernel
theorem dX12_spellGoes_84 : decode cX12_spellGoes 84 = .ok (.aload_n 0, 1) := by decide +kernel
theorem dX12_spellGoes_85 : decode cX12_spellGoes 85 = .ok (.getfield 63, 3) := by decide +kernel
theorem dX12_spellGoes_88 : decode cX12_spellGoes 88 = .ok (.iload_n 2, 1) := by decide +kernel
theorem dX12_spellGoes_89 : decode cX12_spellGoes 89 = .ok (.iaload, 1) := by decide +kernel
theorem dX12_spellGoes_90 : decode cX12_spellGoes 90 = .ok (.iadd, 1) := by decide +kernel
theorem dX12_spellGoes_91 : decode cX12_spellGoes 91 = .ok (.invokestatic 142, 3) := by decide +kernel
theorem dX12_spellGoes_94 : decode cX12_spellGoes 94 = .ok (.iastore, 1) := by decide +kernel
theorem dX12_spellGoes_95 : decode cX12_spellGoes 95 = .ok (.iinc 2 1, 3) := by decide +kernel
theorem dX12_spellGoes_98 : decode cX12_spellGoes 98 = .ok (.goto (-30), 3) := by decide +kernel
theorem dX12_spellGoes_101 : decode cX12_spellGoes 101 = .ok (.iconst 0, 1) := by decide +kernel
theorem dX12_spellGoes_102 : decode cX12_spellGoes 102 = .ok (.istore_n 2, 1) := by decide +kernel
theorem dX12_spellGoes_103 : decode cX12_spellGoes 103 = .ok (.iload_n 2, 1) := by decide +kernel
theorem dX12_spellGoes_104 : decode cX12_spellGoes 104 = .ok (.aload_n 0, 1) := by decide +kernel
theorem dX12_spellGoes_105 : decode cX12_spellGoes 105 = .ok (.getfield 126, 3) := by decide +kernel
theorem dX12_spellGoes_108 : decode cX12_spellGoes 108 = .ok (.if_icmp .ge 66, 3) := by decide +kernel
theorem dX12_spellGoes_111 : decode cX12_spellGoes 111 = .ok (.bipush 25, 2) := by decide +kernel
theorem dX12_spellGoes_113 : decode cX12_spellGoes 113 = .ok (.iconst 2, 1) := by decide +kernel
theorem dX12_spellGoes_114 : decode cX12_spellGoes 114 = .ok (.iload_n 2, 1) := by decide +kernel
theorem dX12_spellGoes_115 : decode cX12_spellGoes 115 = .ok (.imul, 1) := by decide +kernel
