theorem dX11_init_0 : decode cX11_init 0 = .ok (.aload_n 0, 1) := by decide +kernel
theorem dX11_init_1 : decode cX11_init 1 = .ok (.invokespecial 1, 3) := by decide +kernel
theorem dX11_init_4 : decode cX11_init 4 = .ok (.aload_n 0, 1) := by decide +kernel
theorem dX11_init_5 : decode cX11_init 5 = .ok (.new 7, 3) := by decide +kernel
theorem dX11_init_8 : decode cX11_init 8 = .ok (.dup, 1) := by decide +kernel
theorem dX11_init_9 : decode cX11_init 9 = .ok (.invokespecial 9, 3) := by decide +kernel
theorem dX11_init_12 : decode cX11_init 12 = .ok (.putfield 10, 3) := by decide +kernel
theorem dX11_init_15 : decode cX11_init 15 = .ok (.aload_n 0, 1) := by decide +kernel
theorem dX11_init_16 : decode cX11_init 16 = .ok (.new 16, 3) := by decide +kernel
theorem dX11_init_19 : decode cX11_init 19 = .ok (.dup, 1) := by decide +kernel
theorem dX11_init_20 : decode cX11_init 20 = .ok (.invokespecial 18, 3) := by decide +kernel
theorem dX11_init_23 : decode cX11_init 23 = .ok (.putfield 19, 3) := by decide +kernel
theorem dX11_init_26 : decode cX11_init 26 = .ok (.aload_n 0, 1) := by decide +kernel
theorem dX11_init_27 : decode cX11_init 27 = .ok (.new 23, 3) := by decide +kernel
theorem dX11_init_30 : decode cX11_init 30 = .ok (.dup, 1) := by decide +kernel
theorem dX11_init_31 : decode cX11_init 31 = .ok (.invokespecial 25, 3) := by decide +kernel
theorem dX11_init_34 : decode cX11_init 34 = .ok (.putfield 26, 3) := by decide +kernel
theorem dX11_init_37 : decode cX11_init 37 = .ok (.aload_n 0, 1) := by decide +kernel
theorem dX11_init_38 : decode cX11_init 38 = .ok (.new 30, 3) := by decide +kernel
theorem dX11_init_41 : decode cX11_init 41 = .ok (.dup, 1) := by decide +kernel
theorem dX11_init_42 : decode cX11_init 42 = .ok (.invokespecial 32, 3) := by decide +kernel
theorem dX11_init_45 : decode cX11_init 45 = .ok (.putfield 33, 3) := by decide +kernel
theorem dX11_init_48 : decode cX11_init 48 = .ok (.aload_n 0, 1) := by decide +kernel
theorem dX11_init_49 : decode cX11_init 49 = .ok (.new 37, 3) := by decide +kernel
theorem dX11_init_52 : decode cX11_init 52 = .ok (.dup, 1) := by decide +kernel
theorem dX11_init_53 : decode cX11_init 53 = .ok (.invokespecial 39, 3) := by decide +kernel
theorem dX11_init_56 : decode cX11_init 56 = .ok (.putfield 40, 3) := by decide +kernel
theorem dX11_init_59 : decode cX11_init 59 = .ok (.aload_n 0, 1) := by decide +kernel
theorem dX11_init_60 : decode cX11_init 60 = .ok (.new 37, 3) := by decide +kernel
theorem dX11_init_63 : decode cX11_init 63 = .ok (.dup, 1) := by decide +kernel
theorem dX11_init_64 : decode cX11_init 64 = .ok (.invokespecial 39, 3) := by decide +kernel
theorem dX11_init_67 : decode cX11_init 67 = .ok (.putfield 44, 3) := by decide +kernel
theorem dX11_init_70 : decode cX11_init 70 = .ok (.aload_n 0, 1) := by decide +kernel
theorem dX11_init_71 : decode cX11_init 71 = .ok (.iconst 2, 1) := by decide +kernel
theorem dX11_init_72 : decode cX11_init 72 = .ok (.putfield 47, 3) := by decide +kernel
theorem dX11_init_75 : decode cX11_init 75 = .ok (.aload_n 0, 1) := by decide +kernel
theorem dX11_init_76 : decode cX11_init 76 = .ok (.new 51, 3) := by decide +kernel
theorem dX11_init_79 : decode cX11_init 79 = .ok (.dup, 1) := by decide +kernel
theorem dX11_init_80 : decode cX11_init 80 = .ok (.aload_n 0, 1) := by decide +kernel
theorem dX11_init_81 : decode cX11_init 81 = .ok (.getfield 26, 3) := by decide +kernel
theorem dX11_init_84 : decode cX11_init 84 = .ok (.aload_n 0, 1) := by decide +kernel
theorem dX11_init_85 : decode cX11_init 85 = .ok (.getfield 33, 3) := by decide +kernel
theorem dX11_init_88 : decode cX11_init 88 = .ok (.invokespecial 53, 3) := by decide +kernel
theorem dX11_init_91 : decode cX11_init 91 = .ok (.putfield 56, 3) := by decide +kernel
theorem dX11_init_94 : decode cX11_init 94 = .ok (.aload_n 0, 1) := by decide +kernel
theorem dX11_init_95 : decode cX11_init 95 = .ok (.new 51, 3) := by decide +kernel
theorem dX11_init_98 : decode cX11_init 98 = .ok (.dup, 1) := by decide +kernel
theorem dX11_init_99 : decode cX11_init 99 = .ok (.aload_n 0, 1) := by decide +kernel
theorem dX11_init_100 : decode cX11_init 100 = .ok (.getfield 26, 3) := by decide +kernel
theorem dX11_init_103 : decode cX11_init 103 = .ok (.aload_n 0, 1) := by decide +kernel
theorem dX11_init_104 : decode cX11_init 104 = .ok (.getfield 33, 3) := by decide +kernel
theorem dX11_init_107 : decode cX11_init 107 = .ok (.invokespecial 53, 3) := by decide +kernel
theorem dX11_init_110 : decode cX11_init 110 = .ok (.putfield 60, 3) := by decide +kernel
theorem dX11_init_113 : decode cX11_init 113 = .ok (.aload_n 0, 1) := by decide +kernel
theorem dX11_init_114 : decode cX11_init 114 = .ok (.new 63, 3) := by decide +kernel
theorem dX11_init_117 : decode cX11_init 117 = .ok (.dup, 1) := by decide +kernel
theorem dX11_init_118 : decode cX11_init 118 = .ok (.aload_n 0, 1) := by decide +kernel
theorem dX11_init_119 : decode cX11_init 119 = .ok (.getfield 26, 3) := by decide +kernel
theorem dX11_init_122 : decode cX11_init 122 = .ok (.aload_n 0, 1) := by decide +kernel
theorem dX11_init_123 : decode cX11_init 123 = .ok (.getfield 33, 3) := by decide +kernel
theorem dX11_init_126 : decode cX11_init 126 = .ok (.invokespecial 65, 3) := by decide +kernel
theorem dX11_init_129 : decode cX11_init 129 = .ok (.putfield 66, 3) := by decide +kernel
theorem dX11_init_132 : decode cX11_init 132 = .ok (.aload_n 0, 1) := by decide +kernel
theorem dX11_init_133 : decode cX11_init 133 = .ok (.iconst 3, 1) := by decide +kernel
theorem dX11_init_134 : decode cX11_init 134 = .ok (.anewarray 51, 3) := by decide +kernel
theorem dX11_init_137 : decode cX11_init 137 = .ok (.putfield 70, 3) := by decide +kernel
theorem dX11_init_140 : decode cX11_init 140 = .ok (.aload_n 0, 1) := by decide +kernel
theorem dX11_init_141 : decode cX11_init 141 = .ok (.iconst 3, 1) := by decide +kernel
theorem dX11_init_142 : decode cX11_init 142 = .ok (.newarray .int, 2) := by decide +kernel
theorem dX11_init_144 : decode cX11_init 144 = .ok (.putfield 74, 3) := by decide +kernel
theorem dX11_init_147 : decode cX11_init 147 = .ok (.aload_n 0, 1) := by decide +kernel
theorem dX11_init_148 : decode cX11_init 148 = .ok (.new 78, 3) := by decide +kernel
theorem dX11_init_151 : decode cX11_init 151 = .ok (.dup, 1) := by decide +kernel
theorem dX11_init_152 : decode cX11_init 152 = .ok (.aload_n 0, 1) := by decide +kernel
theorem dX11_init_153 : decode cX11_init 153 = .ok (.getfield 33, 3) := by decide +kernel
theorem dX11_init_156 : decode cX11_init 156 = .ok (.invokespecial 80, 3) := by decide +kernel
theorem dX11_init_159 : decode cX11_init 159 = .ok (.putfield 83, 3) := by decide +kernel
theorem dX11_init_162 : decode cX11_init 162 = .ok (.aload_n 0, 1) := by decide +kernel
theorem dX11_init_163 : decode cX11_init 163 = .ok (.new 87, 3) := by decide +kernel
theorem dX11_init_166 : decode cX11_init 166 = .ok (.dup, 1) := by decide +kernel
theorem dX11_init_167 : decode cX11_init 167 = .ok (.aload_n 0, 1) := by decide +kernel
theorem dX11_init_168 : decode cX11_init 168 = .ok (.getfield 26, 3) := by decide +kernel
theorem dX11_init_171 : decode cX11_init 171 = .ok (.aload_n 0, 1) := by decide +kernel
theorem dX11_init_172 : decode cX11_init 172 = .ok (.getfield 33, 3) := by decide +kernel
theorem dX11_init_175 : decode cX11_init 175 = .ok (.invokespecial 89, 3) := by decide +kernel
theorem dX11_init_178 : decode cX11_init 178 = .ok (.putfield 90, 3) := by decide +kernel
theorem dX11_init_181 : decode cX11_init 181 = .ok (.aload_n 0, 1) := by decide +kernel
theorem dX11_init_182 : decode cX11_init 182 = .ok (.new 94, 3) := by decide +kernel
theorem dX11_init_185 : decode cX11_init 185 = .ok (.dup, 1) := by decide +kernel
theorem dX11_init_186 : decode cX11_init 186 = .ok (.aload_n 0, 1) := by decide +kernel
theorem dX11_init_187 : decode cX11_init 187 = .ok (.getfield 26, 3) := by decide +kernel
theorem dX11_init_190 : decode cX11_init 190 = .ok (.invokespecial 96, 3) := by decide +kernel
theorem dX11_init_193 : decode cX11_init 193 = .ok (.putfield 99, 3) := by decide +kernel
theorem dX11_init_196 : decode cX11_init 196 = .ok (.aload_n 0, 1) := by decide +kernel
theorem dX11_init_197 : decode cX11_init 197 = .ok (.new 103, 3) := by decide +kernel
theorem dX11_init_200 : decode cX11_init 200 = .ok (.dup, 1) := by decide +kernel
theorem dX11_init_201 : decode cX11_init 201 = .ok (.invokespecial 105, 3) := by decide +kernel
theorem dX11_init_204 : decode cX11_init 204 = .ok (.putfield 106, 3) := by decide +kernel
theorem dX11_init_207 : decode cX11_init 207 = .ok (.iconst 0, 1) := by decide +kernel
theorem dX11_init_208 : decode cX11_init 208 = .ok (.istore_n 1, 1) := by decide +kernel
theorem dX11_init_209 : decode cX11_init 209 = .ok (.iload_n 1, 1) := by decide +kernel
theorem dX11_init_210 : decode cX11_init 210 = .ok (.iconst 3, 1) := by decide +kernel
theorem dX11_init_211 : decode cX11_init 211 = .ok (.if_icmp .ge 37, 3) := by decide +kernel
theorem dX11_init_214 : decode cX11_init 214 = .ok (.aload_n 0, 1) := by decide +kernel
theorem dX11_init_215 : decode cX11_init 215 = .ok (.getfield 70, 3) := by decide +kernel
theorem dX11_init_218 : decode cX11_init 218 = .ok (.iload_n 1, 1) := by decide +kernel
theorem dX11_init_219 : decode cX11_init 219 = .ok (.new 51, 3) := by decide +kernel
theorem dX11_init_222 : decode cX11_init 222 = .ok (.dup, 1) := by decide +kernel
theorem dX11_init_223 : decode cX11_init 223 = .ok (.aload_n 0, 1) := by decide +kernel
theorem dX11_init_224 : decode cX11_init 224 = .ok (.getfield 26, 3) := by decide +kernel
theorem dX11_init_227 : decode cX11_init 227 = .ok (.aload_n 0, 1) := by decide +kernel
theorem dX11_init_228 : decode cX11_init 228 = .ok (.getfield 33, 3) := by decide +kernel
theorem dX11_init_231 : decode cX11_init 231 = .ok (.invokespecial 53, 3) := by decide +kernel
theorem dX11_init_234 : decode cX11_init 234 = .ok (.aastore, 1) := by decide +kernel
theorem dX11_init_235 : decode cX11_init 235 = .ok (.aload_n 0, 1) := by decide +kernel
theorem dX11_init_236 : decode cX11_init 236 = .ok (.getfield 74, 3) := by decide +kernel
theorem dX11_init_239 : decode cX11_init 239 = .ok (.iload_n 1, 1) := by decide +kernel
theorem dX11_init_240 : decode cX11_init 240 = .ok (.iconst (-1), 1) := by decide +kernel
theorem dX11_init_241 : decode cX11_init 241 = .ok (.iastore, 1) := by decide +kernel
theorem dX11_init_242 : decode cX11_init 242 = .ok (.iinc 1 1, 3) := by decide +kernel
theorem dX11_init_245 : decode cX11_init 245 = .ok (.goto (-36), 3) := by decide +kernel
theorem dX11_init_248 : decode cX11_init 248 = .ok (.return_, 1) := by decide +kernel
theorem dX11_sign_0 : decode cX11_sign 0 = .ok (.aload_n 0, 1) := by decide +kernel
theorem dX11_sign_1 : decode cX11_sign 1 = .ok (.getfield 10, 3) := by decide +kernel
theorem dX11_sign_4 : decode cX11_sign 4 = .ok (.iload_n 1, 1) := by decide +kernel
theorem dX11_sign_5 : decode cX11_sign 5 = .ok (.invokevirtual 110, 3) := by decide +kernel
theorem dX11_sign_8 : decode cX11_sign 8 = .ok (.ifCond .eq 13, 3) := by decide +kernel
theorem dX11_sign_11 : decode cX11_sign 11 = .ok (.aload_n 0, 1) := by decide +kernel
theorem dX11_sign_12 : decode cX11_sign 12 = .ok (.getfield 10, 3) := by decide +kernel
theorem dX11_sign_15 : decode cX11_sign 15 = .ok (.getfield 114, 3) := by decide +kernel
theorem dX11_sign_18 : decode cX11_sign 18 = .ok (.goto 4, 3) := by decide +kernel
theorem dX11_sign_21 : decode cX11_sign 21 = .ok (.iconst (-1), 1) := by decide +kernel
theorem dX11_sign_22 : decode cX11_sign 22 = .ok (.ireturn, 1) := by decide +kernel
theorem dX11_end_0 : decode cX11_end 0 = .ok (.aload_n 0, 1) := by decide +kernel
theorem dX11_end_1 : decode cX11_end 1 = .ok (.getfield 10, 3) := by decide +kernel
theorem dX11_end_4 : decode cX11_end 4 = .ok (.iload_n 1, 1) := by decide +kernel
theorem dX11_end_5 : decode cX11_end 5 = .ok (.invokevirtual 117, 3) := by decide +kernel
theorem dX11_end_8 : decode cX11_end 8 = .ok (.ireturn, 1) := by decide +kernel
theorem dX11_shore_0 : decode cX11_shore 0 = .ok (.aload_n 0, 1) := by decide +kernel
theorem dX11_shore_1 : decode cX11_shore 1 = .ok (.getfield 26, 3) := by decide +kernel
theorem dX11_shore_4 : decode cX11_shore 4 = .ok (.aload_n 0, 1) := by decide +kernel
theorem dX11_shore_5 : decode cX11_shore 5 = .ok (.getfield 10, 3) := by decide +kernel
theorem dX11_shore_8 : decode cX11_shore 8 = .ok (.invokevirtual 120, 3) := by decide +kernel
theorem dX11_shore_11 : decode cX11_shore 11 = .ok (.istore_n 1, 1) := by decide +kernel
theorem dX11_shore_12 : decode cX11_shore 12 = .ok (.aload_n 0, 1) := by decide +kernel
theorem dX11_shore_13 : decode cX11_shore 13 = .ok (.getfield 10, 3) := by decide +kernel
theorem dX11_shore_16 : decode cX11_shore 16 = .ok (.iconst 0, 1) := by decide +kernel
theorem dX11_shore_17 : decode cX11_shore 17 = .ok (.putfield 114, 3) := by decide +kernel
theorem dX11_shore_20 : decode cX11_shore 20 = .ok (.iload_n 1, 1) := by decide +kernel
theorem dX11_shore_21 : decode cX11_shore 21 = .ok (.iconst (-1), 1) := by decide +kernel
theorem dX11_shore_22 : decode cX11_shore 22 = .ok (.if_icmp .eq 7, 3) := by decide +kernel
theorem dX11_shore_25 : decode cX11_shore 25 = .ok (.iconst (-1), 1) := by decide +kernel
theorem dX11_shore_26 : decode cX11_shore 26 = .ok (.iload_n 1, 1) := by decide +kernel
theorem dX11_shore_27 : decode cX11_shore 27 = .ok (.isub, 1) := by decide +kernel
theorem dX11_shore_28 : decode cX11_shore 28 = .ok (.ireturn, 1) := by decide +kernel
theorem dX11_shore_29 : decode cX11_shore 29 = .ok (.aload_n 0, 1) := by decide +kernel
theorem dX11_shore_30 : decode cX11_shore 30 = .ok (.getfield 56, 3) := by decide +kernel
theorem dX11_shore_33 : decode cX11_shore 33 = .ok (.invokevirtual 124, 3) := by decide +kernel
theorem dX11_shore_36 : decode cX11_shore 36 = .ok (.aload_n 0, 1) := by decide +kernel
theorem dX11_shore_37 : decode cX11_shore 37 = .ok (.getfield 83, 3) := by decide +kernel
theorem dX11_shore_40 : decode cX11_shore 40 = .ok (.invokevirtual 127, 3) := by decide +kernel
theorem dX11_shore_43 : decode cX11_shore 43 = .ok (.aload_n 0, 1) := by decide +kernel
theorem dX11_shore_44 : decode cX11_shore 44 = .ok (.getfield 66, 3) := by decide +kernel
theorem dX11_shore_47 : decode cX11_shore 47 = .ok (.invokevirtual 130, 3) := by decide +kernel
theorem dX11_shore_50 : decode cX11_shore 50 = .ok (.iconst 0, 1) := by decide +kernel
theorem dX11_shore_51 : decode cX11_shore 51 = .ok (.istore_n 2, 1) := by decide +kernel
theorem dX11_shore_52 : decode cX11_shore 52 = .ok (.iload_n 2, 1) := by decide +kernel
theorem dX11_shore_53 : decode cX11_shore 53 = .ok (.iconst 3, 1) := by decide +kernel
theorem dX11_shore_54 : decode cX11_shore 54 = .ok (.if_icmp .ge 16, 3) := by decide +kernel
theorem dX11_shore_57 : decode cX11_shore 57 = .ok (.aload_n 0, 1) := by decide +kernel
theorem dX11_shore_58 : decode cX11_shore 58 = .ok (.getfield 74, 3) := by decide +kernel
theorem dX11_shore_61 : decode cX11_shore 61 = .ok (.iload_n 2, 1) := by decide +kernel
theorem dX11_shore_62 : decode cX11_shore 62 = .ok (.iconst (-1), 1) := by decide +kernel
theorem dX11_shore_63 : decode cX11_shore 63 = .ok (.iastore, 1) := by decide +kernel
theorem dX11_shore_64 : decode cX11_shore 64 = .ok (.iinc 2 1, 3) := by decide +kernel
theorem dX11_shore_67 : decode cX11_shore 67 = .ok (.goto (-15), 3) := by decide +kernel
theorem dX11_shore_70 : decode cX11_shore 70 = .ok (.aload_n 0, 1) := by decide +kernel
theorem dX11_shore_71 : decode cX11_shore 71 = .ok (.getfield 26, 3) := by decide +kernel
theorem dX11_shore_74 : decode cX11_shore 74 = .ok (.getfield 131, 3) := by decide +kernel
theorem dX11_shore_77 : decode cX11_shore 77 = .ok (.ireturn, 1) := by decide +kernel
theorem dX11_children_0 : decode cX11_children 0 = .ok (.aload_n 0, 1) := by decide +kernel
theorem dX11_children_1 : decode cX11_children 1 = .ok (.getfield 33, 3) := by decide +kernel
theorem dX11_children_4 : decode cX11_children 4 = .ok (.getfield 134, 3) := by decide +kernel
theorem dX11_children_7 : decode cX11_children 7 = .ok (.istore_n 1, 1) := by decide +kernel
theorem dX11_children_8 : decode cX11_children 8 = .ok (.aload_n 0, 1) := by decide +kernel
theorem dX11_children_9 : decode cX11_children 9 = .ok (.getfield 33, 3) := by decide +kernel
theorem dX11_children_12 : decode cX11_children 12 = .ok (.aload_n 0, 1) := by decide +kernel
theorem dX11_children_13 : decode cX11_children 13 = .ok (.getfield 10, 3) := by decide +kernel
theorem dX11_children_16 : decode cX11_children 16 = .ok (.invokevirtual 137, 3) := by decide +kernel
theorem dX11_children_19 : decode cX11_children 19 = .ok (.istore_n 2, 1) := by decide +kernel
theorem dX11_children_20 : decode cX11_children 20 = .ok (.aload_n 0, 1) := by decide +kernel
theorem dX11_children_21 : decode cX11_children 21 = .ok (.getfield 10, 3) := by decide +kernel
theorem dX11_children_24 : decode cX11_children 24 = .ok (.iconst 0, 1) := by decide +kernel
theorem dX11_children_25 : decode cX11_children 25 = .ok (.putfield 114, 3) := by decide +kernel
theorem dX11_children_28 : decode cX11_children 28 = .ok (.iload_n 2, 1) := by decide +kernel
theorem dX11_children_29 : decode cX11_children 29 = .ok (.ifCond .le 18, 3) := by decide +kernel
theorem dX11_children_32 : decode cX11_children 32 = .ok (.aload_n 0, 1) := by decide +kernel
theorem dX11_children_33 : decode cX11_children 33 = .ok (.getfield 56, 3) := by decide +kernel
theorem dX11_children_36 : decode cX11_children 36 = .ok (.iload_n 1, 1) := by decide +kernel
theorem dX11_children_37 : decode cX11_children 37 = .ok (.invokevirtual 138, 3) := by decide +kernel
theorem dX11_children_40 : decode cX11_children 40 = .ok (.aload_n 0, 1) := by decide +kernel
theorem dX11_children_41 : decode cX11_children 41 = .ok (.getfield 66, 3) := by decide +kernel
theorem dX11_children_44 : decode cX11_children 44 = .ok (.invokevirtual 130, 3) := by decide +kernel
theorem dX11_children_47 : decode cX11_children 47 = .ok (.iload_n 2, 1) := by decide +kernel
theorem dX11_children_48 : decode cX11_children 48 = .ok (.ireturn, 1) := by decide +kernel
theorem dX11_rule_0 : decode cX11_rule 0 = .ok (.aload_n 0, 1) := by decide +kernel
theorem dX11_rule_1 : decode cX11_rule 1 = .ok (.getfield 44, 3) := by decide +kernel
theorem dX11_rule_4 : decode cX11_rule 4 = .ok (.aload_n 0, 1) := by decide +kernel
theorem dX11_rule_5 : decode cX11_rule 5 = .ok (.getfield 10, 3) := by decide +kernel
theorem dX11_rule_8 : decode cX11_rule 8 = .ok (.invokevirtual 142, 3) := by decide +kernel
theorem dX11_rule_11 : decode cX11_rule 11 = .ok (.istore_n 1, 1) := by decide +kernel
theorem dX11_rule_12 : decode cX11_rule 12 = .ok (.aload_n 0, 1) := by decide +kernel
theorem dX11_rule_13 : decode cX11_rule 13 = .ok (.getfield 10, 3) := by decide +kernel
theorem dX11_rule_16 : decode cX11_rule 16 = .ok (.iconst 0, 1) := by decide +kernel
theorem dX11_rule_17 : decode cX11_rule 17 = .ok (.putfield 114, 3) := by decide +kernel
theorem dX11_rule_20 : decode cX11_rule 20 = .ok (.iload_n 1, 1) := by decide +kernel
theorem dX11_rule_21 : decode cX11_rule 21 = .ok (.iconst (-1), 1) := by decide +kernel
theorem dX11_rule_22 : decode cX11_rule 22 = .ok (.if_icmp .eq 7, 3) := by decide +kernel
theorem dX11_rule_25 : decode cX11_rule 25 = .ok (.iconst (-1), 1) := by decide +kernel
theorem dX11_rule_26 : decode cX11_rule 26 = .ok (.iload_n 1, 1) := by decide +kernel
theorem dX11_rule_27 : decode cX11_rule 27 = .ok (.isub, 1) := by decide +kernel
theorem dX11_rule_28 : decode cX11_rule 28 = .ok (.ireturn, 1) := by decide +kernel
theorem dX11_rule_29 : decode cX11_rule 29 = .ok (.aload_n 0, 1) := by decide +kernel
theorem dX11_rule_30 : decode cX11_rule 30 = .ok (.getfield 40, 3) := by decide +kernel
theorem dX11_rule_33 : decode cX11_rule 33 = .ok (.astore_n 2, 1) := by decide +kernel
theorem dX11_rule_34 : decode cX11_rule 34 = .ok (.aload_n 0, 1) := by decide +kernel
theorem dX11_rule_35 : decode cX11_rule 35 = .ok (.aload_n 0, 1) := by decide +kernel
theorem dX11_rule_36 : decode cX11_rule 36 = .ok (.getfield 44, 3) := by decide +kernel
theorem dX11_rule_39 : decode cX11_rule 39 = .ok (.putfield 40, 3) := by decide +kernel
theorem dX11_rule_42 : decode cX11_rule 42 = .ok (.aload_n 0, 1) := by decide +kernel
theorem dX11_rule_43 : decode cX11_rule 43 = .ok (.aload_n 2, 1) := by decide +kernel
theorem dX11_rule_44 : decode cX11_rule 44 = .ok (.putfield 44, 3) := by decide +kernel
theorem dX11_rule_47 : decode cX11_rule 47 = .ok (.iconst 0, 1) := by decide +kernel
theorem dX11_rule_48 : decode cX11_rule 48 = .ok (.ireturn, 1) := by decide +kernel
theorem dX11_cell_0 : decode cX11_cell 0 = .ok (.aload_n 0, 1) := by decide +kernel
theorem dX11_cell_1 : decode cX11_cell 1 = .ok (.getfield 26, 3) := by decide +kernel
theorem dX11_cell_4 : decode cX11_cell 4 = .ok (.iload_n 1, 1) := by decide +kernel
theorem dX11_cell_5 : decode cX11_cell 5 = .ok (.invokevirtual 143, 3) := by decide +kernel
theorem dX11_cell_8 : decode cX11_cell 8 = .ok (.ifCond .ne 13, 3) := by decide +kernel
theorem dX11_cell_11 : decode cX11_cell 11 = .ok (.new 146, 3) := by decide +kernel
theorem dX11_cell_14 : decode cX11_cell 14 = .ok (.dup, 1) := by decide +kernel
theorem dX11_cell_15 : decode cX11_cell 15 = .ok (.ldc 148, 2) := by decide +kernel
theorem dX11_cell_17 : decode cX11_cell 17 = .ok (.invokespecial 150, 3) := by decide +kernel
theorem dX11_cell_20 : decode cX11_cell 20 = .ok (.athrow, 1) := by decide +kernel
theorem dX11_cell_21 : decode cX11_cell 21 = .ok (.iload_n 2, 1) := by decide +kernel
theorem dX11_cell_22 : decode cX11_cell 22 = .ok (.tableswitch 112 0 6 #[42, 52, 62, 74, 84, 94, 103], 42) := by decide +kernel
theorem dX11_cell_64 : decode cX11_cell 64 = .ok (.aload_n 0, 1) := by decide +kernel
theorem dX11_cell_65 : decode cX11_cell 65 = .ok (.getfield 26, 3) := by decide +kernel
theorem dX11_cell_68 : decode cX11_cell 68 = .ok (.getfield 153, 3) := by decide +kernel
theorem dX11_cell_71 : decode cX11_cell 71 = .ok (.iload_n 1, 1) := by decide +kernel
theorem dX11_cell_72 : decode cX11_cell 72 = .ok (.iaload, 1) := by decide +kernel
theorem dX11_cell_73 : decode cX11_cell 73 = .ok (.ireturn, 1) := by decide +kernel
theorem dX11_cell_74 : decode cX11_cell 74 = .ok (.aload_n 0, 1) := by decide +kernel
theorem dX11_cell_75 : decode cX11_cell 75 = .ok (.getfield 56, 3) := by decide +kernel
theorem dX11_cell_78 : decode cX11_cell 78 = .ok (.getfield 156, 3) := by decide +kernel
theorem dX11_cell_81 : decode cX11_cell 81 = .ok (.iload_n 1, 1) := by decide +kernel
theorem dX11_cell_82 : decode cX11_cell 82 = .ok (.iaload, 1) := by decide +kernel
theorem dX11_cell_83 : decode cX11_cell 83 = .ok (.ireturn, 1) := by decide +kernel
theorem dX11_cell_84 : decode cX11_cell 84 = .ok (.aload_n 0, 1) := by decide +kernel
theorem dX11_cell_85 : decode cX11_cell 85 = .ok (.getfield 56, 3) := by decide +kernel
theorem dX11_cell_88 : decode cX11_cell 88 = .ok (.getfield 159, 3) := by decide +kernel
theorem dX11_cell_91 : decode cX11_cell 91 = .ok (.iload_n 1, 1) := by decide +kernel
theorem dX11_cell_92 : decode cX11_cell 92 = .ok (.ishr, 1) := by decide +kernel
theorem dX11_cell_93 : decode cX11_cell 93 = .ok (.iconst 1, 1) := by decide +kernel
theorem dX11_cell_94 : decode cX11_cell 94 = .ok (.iand, 1) := by decide +kernel
theorem dX11_cell_95 : decode cX11_cell 95 = .ok (.ireturn, 1) := by decide +kernel
theorem dX11_cell_96 : decode cX11_cell 96 = .ok (.aload_n 0, 1) := by decide +kernel
theorem dX11_cell_97 : decode cX11_cell 97 = .ok (.getfield 56, 3) := by decide +kernel
theorem dX11_cell_100 : decode cX11_cell 100 = .ok (.getfield 162, 3) := by decide +kernel
theorem dX11_cell_103 : decode cX11_cell 103 = .ok (.iload_n 1, 1) := by decide +kernel
theorem dX11_cell_104 : decode cX11_cell 104 = .ok (.iaload, 1) := by decide +kernel
theorem dX11_cell_105 : decode cX11_cell 105 = .ok (.ireturn, 1) := by decide +kernel
theorem dX11_cell_106 : decode cX11_cell 106 = .ok (.aload_n 0, 1) := by decide +kernel
theorem dX11_cell_107 : decode cX11_cell 107 = .ok (.getfield 26, 3) := by decide +kernel
theorem dX11_cell_110 : decode cX11_cell 110 = .ok (.getfield 165, 3) := by decide +kernel
theorem dX11_cell_113 : decode cX11_cell 113 = .ok (.iload_n 1, 1) := by decide +kernel
theorem dX11_cell_114 : decode cX11_cell 114 = .ok (.iaload, 1) := by decide +kernel
theorem dX11_cell_115 : decode cX11_cell 115 = .ok (.ireturn, 1) := by decide +kernel
theorem dX11_cell_116 : decode cX11_cell 116 = .ok (.aload_n 0, 1) := by decide +kernel
theorem dX11_cell_117 : decode cX11_cell 117 = .ok (.getfield 56, 3) := by decide +kernel
theorem dX11_cell_120 : decode cX11_cell 120 = .ok (.iload_n 1, 1) := by decide +kernel
theorem dX11_cell_121 : decode cX11_cell 121 = .ok (.invokevirtual 168, 3) := by decide +kernel
theorem dX11_cell_124 : decode cX11_cell 124 = .ok (.ireturn, 1) := by decide +kernel
theorem dX11_cell_125 : decode cX11_cell 125 = .ok (.aload_n 0, 1) := by decide +kernel
theorem dX11_cell_126 : decode cX11_cell 126 = .ok (.getfield 56, 3) := by decide +kernel
theorem dX11_cell_129 : decode cX11_cell 129 = .ok (.iload_n 1, 1) := by decide +kernel
theorem dX11_cell_130 : decode cX11_cell 130 = .ok (.invokevirtual 172, 3) := by decide +kernel
theorem dX11_cell_133 : decode cX11_cell 133 = .ok (.ireturn, 1) := by decide +kernel
theorem dX11_cell_134 : decode cX11_cell 134 = .ok (.new 146, 3) := by decide +kernel
theorem dX11_cell_137 : decode cX11_cell 137 = .ok (.dup, 1) := by decide +kernel
theorem dX11_cell_138 : decode cX11_cell 138 = .ok (.ldc 175, 2) := by decide +kernel
theorem dX11_cell_140 : decode cX11_cell 140 = .ok (.invokespecial 150, 3) := by decide +kernel
theorem dX11_cell_143 : decode cX11_cell 143 = .ok (.athrow, 1) := by decide +kernel
theorem dX11_child_0 : decode cX11_child 0 = .ok (.aload_n 0, 1) := by decide +kernel
theorem dX11_child_1 : decode cX11_child 1 = .ok (.getfield 33, 3) := by decide +kernel
theorem dX11_child_4 : decode cX11_child 4 = .ok (.iload_n 1, 1) := by decide +kernel
theorem dX11_child_5 : decode cX11_child 5 = .ok (.invokevirtual 177, 3) := by decide +kernel
theorem dX11_child_8 : decode cX11_child 8 = .ok (.ifCond .ne 13, 3) := by decide +kernel
theorem dX11_child_11 : decode cX11_child 11 = .ok (.new 146, 3) := by decide +kernel
theorem dX11_child_14 : decode cX11_child 14 = .ok (.dup, 1) := by decide +kernel
theorem dX11_child_15 : decode cX11_child 15 = .ok (.ldc 178, 2) := by decide +kernel
theorem dX11_child_17 : decode cX11_child 17 = .ok (.invokespecial 150, 3) := by decide +kernel
theorem dX11_child_20 : decode cX11_child 20 = .ok (.athrow, 1) := by decide +kernel
theorem dX11_child_21 : decode cX11_child 21 = .ok (.iload_n 2, 1) := by decide +kernel
theorem dX11_child_22 : decode cX11_child 22 = .ok (.tableswitch 113 0 6 #[42, 52, 62, 72, 82, 94, 104], 42) := by decide +kernel
theorem dX11_child_64 : decode cX11_child 64 = .ok (.aload_n 0, 1) := by decide +kernel
theorem dX11_child_65 : decode cX11_child 65 = .ok (.getfield 33, 3) := by decide +kernel
theorem dX11_child_68 : decode cX11_child 68 = .ok (.getfield 180, 3) := by decide +kernel
theorem dX11_child_71 : decode cX11_child 71 = .ok (.iload_n 1, 1) := by decide +kernel
theorem dX11_child_72 : decode cX11_child 72 = .ok (.iaload, 1) := by decide +kernel
theorem dX11_child_73 : decode cX11_child 73 = .ok (.ireturn, 1) := by decide +kernel
theorem dX11_child_74 : decode cX11_child 74 = .ok (.aload_n 0, 1) := by decide +kernel
theorem dX11_child_75 : decode cX11_child 75 = .ok (.getfield 33, 3) := by decide +kernel
theorem dX11_child_78 : decode cX11_child 78 = .ok (.getfield 183, 3) := by decide +kernel
theorem dX11_child_81 : decode cX11_child 81 = .ok (.iload_n 1, 1) := by decide +kernel
theorem dX11_child_82 : decode cX11_child 82 = .ok (.iaload, 1) := by decide +kernel
theorem dX11_child_83 : decode cX11_child 83 = .ok (.ireturn, 1) := by decide +kernel
theorem dX11_child_84 : decode cX11_child 84 = .ok (.aload_n 0, 1) := by decide +kernel
theorem dX11_child_85 : decode cX11_child 85 = .ok (.getfield 33, 3) := by decide +kernel
theorem dX11_child_88 : decode cX11_child 88 = .ok (.getfield 186, 3) := by decide +kernel
theorem dX11_child_91 : decode cX11_child 91 = .ok (.iload_n 1, 1) := by decide +kernel
theorem dX11_child_92 : decode cX11_child 92 = .ok (.iaload, 1) := by decide +kernel
theorem dX11_child_93 : decode cX11_child 93 = .ok (.ireturn, 1) := by decide +kernel
theorem dX11_child_94 : decode cX11_child 94 = .ok (.aload_n 0, 1) := by decide +kernel
theorem dX11_child_95 : decode cX11_child 95 = .ok (.getfield 56, 3) := by decide +kernel
theorem dX11_child_98 : decode cX11_child 98 = .ok (.getfield 189, 3) := by decide +kernel
theorem dX11_child_101 : decode cX11_child 101 = .ok (.iload_n 1, 1) := by decide +kernel
theorem dX11_child_102 : decode cX11_child 102 = .ok (.iaload, 1) := by decide +kernel
theorem dX11_child_103 : decode cX11_child 103 = .ok (.ireturn, 1) := by decide +kernel
theorem dX11_child_104 : decode cX11_child 104 = .ok (.aload_n 0, 1) := by decide +kernel
theorem dX11_child_105 : decode cX11_child 105 = .ok (.getfield 56, 3) := by decide +kernel
theorem dX11_child_108 : decode cX11_child 108 = .ok (.getfield 192, 3) := by decide +kernel
theorem dX11_child_111 : decode cX11_child 111 = .ok (.iload_n 1, 1) := by decide +kernel
theorem dX11_child_112 : decode cX11_child 112 = .ok (.ishr, 1) := by decide +kernel
theorem dX11_child_113 : decode cX11_child 113 = .ok (.iconst 1, 1) := by decide +kernel
theorem dX11_child_114 : decode cX11_child 114 = .ok (.iand, 1) := by decide +kernel
theorem dX11_child_115 : decode cX11_child 115 = .ok (.ireturn, 1) := by decide +kernel
theorem dX11_child_116 : decode cX11_child 116 = .ok (.aload_n 0, 1) := by decide +kernel
theorem dX11_child_117 : decode cX11_child 117 = .ok (.getfield 56, 3) := by decide +kernel
theorem dX11_child_120 : decode cX11_child 120 = .ok (.getfield 195, 3) := by decide +kernel
theorem dX11_child_123 : decode cX11_child 123 = .ok (.iload_n 1, 1) := by decide +kernel
theorem dX11_child_124 : decode cX11_child 124 = .ok (.iaload, 1) := by decide +kernel
theorem dX11_child_125 : decode cX11_child 125 = .ok (.ireturn, 1) := by decide +kernel
theorem dX11_child_126 : decode cX11_child 126 = .ok (.aload_n 0, 1) := by decide +kernel
theorem dX11_child_127 : decode cX11_child 127 = .ok (.getfield 56, 3) := by decide +kernel
theorem dX11_child_130 : decode cX11_child 130 = .ok (.iload_n 1, 1) := by decide +kernel
theorem dX11_child_131 : decode cX11_child 131 = .ok (.invokevirtual 198, 3) := by decide +kernel
theorem dX11_child_134 : decode cX11_child 134 = .ok (.ireturn, 1) := by decide +kernel
theorem dX11_child_135 : decode cX11_child 135 = .ok (.new 146, 3) := by decide +kernel
theorem dX11_child_138 : decode cX11_child 138 = .ok (.dup, 1) := by decide +kernel
theorem dX11_child_139 : decode cX11_child 139 = .ok (.ldc 201, 2) := by decide +kernel
theorem dX11_child_141 : decode cX11_child 141 = .ok (.invokespecial 150, 3) := by decide +kernel
theorem dX11_child_144 : decode cX11_child 144 = .ok (.athrow, 1) := by decide +kernel
theorem dX11_set_0 : decode cX11_set 0 = .ok (.iload_n 1, 1) := by decide +kernel
theorem dX11_set_1 : decode cX11_set 1 = .ok (.ifCond .ne 25, 3) := by decide +kernel
theorem dX11_set_4 : decode cX11_set 4 = .ok (.iload_n 2, 1) := by decide +kernel
theorem dX11_set_5 : decode cX11_set 5 = .ok (.iconst 0, 1) := by decide +kernel
theorem dX11_set_6 : decode cX11_set 6 = .ok (.bipush 9, 2) := by decide +kernel
theorem dX11_set_8 : decode cX11_set 8 = .ok (.invokestatic 203, 3) := by decide +kernel
theorem dX11_set_11 : decode cX11_set 11 = .ok (.ifCond .eq 15, 3) := by decide +kernel
theorem dX11_set_14 : decode cX11_set 14 = .ok (.aload_n 0, 1) := by decide +kernel
theorem dX11_set_15 : decode cX11_set 15 = .ok (.getfield 207, 3) := by decide +kernel
theorem dX11_set_18 : decode cX11_set 18 = .ok (.istore_n 3, 1) := by decide +kernel
theorem dX11_set_19 : decode cX11_set 19 = .ok (.aload_n 0, 1) := by decide +kernel
theorem dX11_set_20 : decode cX11_set 20 = .ok (.iload_n 2, 1) := by decide +kernel
theorem dX11_set_21 : decode cX11_set 21 = .ok (.putfield 207, 3) := by decide +kernel
theorem dX11_set_24 : decode cX11_set 24 = .ok (.iload_n 3, 1) := by decide +kernel
theorem dX11_set_25 : decode cX11_set 25 = .ok (.ireturn, 1) := by decide +kernel
theorem dX11_set_26 : decode cX11_set 26 = .ok (.iload_n 1, 1) := by decide +kernel
theorem dX11_set_27 : decode cX11_set 27 = .ok (.iconst 1, 1) := by decide +kernel
theorem dX11_set_28 : decode cX11_set 28 = .ok (.if_icmp .ne 34, 3) := by decide +kernel
theorem dX11_set_31 : decode cX11_set 31 = .ok (.iload_n 2, 1) := by decide +kernel
theorem dX11_set_32 : decode cX11_set 32 = .ok (.aload_n 0, 1) := by decide +kernel
theorem dX11_set_33 : decode cX11_set 33 = .ok (.getfield 56, 3) := by decide +kernel
theorem dX11_set_36 : decode cX11_set 36 = .ok (.getfield 192, 3) := by decide +kernel
theorem dX11_set_39 : decode cX11_set 39 = .ok (.invokestatic 210, 3) := by decide +kernel
theorem dX11_set_42 : decode cX11_set 42 = .ok (.bipush 8, 2) := by decide +kernel
theorem dX11_set_44 : decode cX11_set 44 = .ok (.invokestatic 203, 3) := by decide +kernel
theorem dX11_set_47 : decode cX11_set 47 = .ok (.ifCond .eq 15, 3) := by decide +kernel
theorem dX11_set_50 : decode cX11_set 50 = .ok (.aload_n 0, 1) := by decide +kernel
theorem dX11_set_51 : decode cX11_set 51 = .ok (.getfield 47, 3) := by decide +kernel
theorem dX11_set_54 : decode cX11_set 54 = .ok (.istore_n 3, 1) := by decide +kernel
theorem dX11_set_55 : decode cX11_set 55 = .ok (.aload_n 0, 1) := by decide +kernel
theorem dX11_set_56 : decode cX11_set 56 = .ok (.iload_n 2, 1) := by decide +kernel
theorem dX11_set_57 : decode cX11_set 57 = .ok (.putfield 47, 3) := by decide +kernel
theorem dX11_set_60 : decode cX11_set 60 = .ok (.iload_n 3, 1) := by decide +kernel
theorem dX11_set_61 : decode cX11_set 61 = .ok (.ireturn, 1) := by decide +kernel
theorem dX11_set_62 : decode cX11_set 62 = .ok (.iconst (-1), 1) := by decide +kernel
theorem dX11_set_63 : decode cX11_set 63 = .ok (.ireturn, 1) := by decide +kernel
theorem dX11_sheet_0 : decode cX11_sheet 0 = .ok (.iload_n 1, 1) := by decide +kernel
theorem dX11_sheet_1 : decode cX11_sheet 1 = .ok (.iconst 0, 1) := by decide +kernel
theorem dX11_sheet_2 : decode cX11_sheet 2 = .ok (.iconst 3, 1) := by decide +kernel
theorem dX11_sheet_3 : decode cX11_sheet 3 = .ok (.invokestatic 203, 3) := by decide +kernel
theorem dX11_sheet_6 : decode cX11_sheet 6 = .ok (.ifCond .eq 9, 3) := by decide +kernel
theorem dX11_sheet_9 : decode cX11_sheet 9 = .ok (.iload_n 2, 1) := by decide +kernel
theorem dX11_sheet_10 : decode cX11_sheet 10 = .ok (.bipush 8, 2) := by decide +kernel
theorem dX11_sheet_12 : decode cX11_sheet 12 = .ok (.if_icmp .le 5, 3) := by decide +kernel
theorem dX11_sheet_15 : decode cX11_sheet 15 = .ok (.iconst (-1), 1) := by decide +kernel
theorem dX11_sheet_16 : decode cX11_sheet 16 = .ok (.ireturn, 1) := by decide +kernel
theorem dX11_sheet_17 : decode cX11_sheet 17 = .ok (.iload_n 1, 1) := by decide +kernel
theorem dX11_sheet_18 : decode cX11_sheet 18 = .ok (.iconst 3, 1) := by decide +kernel
theorem dX11_sheet_19 : decode cX11_sheet 19 = .ok (.if_icmp .ne 17, 3) := by decide +kernel
theorem dX11_sheet_22 : decode cX11_sheet 22 = .ok (.aload_n 0, 1) := by decide +kernel
theorem dX11_sheet_23 : decode cX11_sheet 23 = .ok (.getfield 56, 3) := by decide +kernel
theorem dX11_sheet_26 : decode cX11_sheet 26 = .ok (.getfield 189, 3) := by decide +kernel
theorem dX11_sheet_29 : decode cX11_sheet 29 = .ok (.iconst 0, 1) := by decide +kernel
theorem dX11_sheet_30 : decode cX11_sheet 30 = .ok (.invokestatic 215, 3) := by decide +kernel
theorem dX11_sheet_33 : decode cX11_sheet 33 = .ok (.bipush (-3), 2) := by decide +kernel
theorem dX11_sheet_35 : decode cX11_sheet 35 = .ok (.ireturn, 1) := by decide +kernel
theorem dX11_sheet_36 : decode cX11_sheet 36 = .ok (.iload_n 2, 1) := by decide +kernel
theorem dX11_sheet_37 : decode cX11_sheet 37 = .ok (.ifCond .ge 6, 3) := by decide +kernel
theorem dX11_sheet_40 : decode cX11_sheet 40 = .ok (.bipush (-2), 2) := by decide +kernel
theorem dX11_sheet_42 : decode cX11_sheet 42 = .ok (.ireturn, 1) := by decide +kernel
theorem dX11_sheet_43 : decode cX11_sheet 43 = .ok (.iconst 0, 1) := by decide +kernel
theorem dX11_sheet_44 : decode cX11_sheet 44 = .ok (.istore 5, 2) := by decide +kernel
theorem dX11_sheet_46 : decode cX11_sheet 46 = .ok (.iload_n 3, 1) := by decide +kernel
theorem dX11_sheet_47 : decode cX11_sheet 47 = .ok (.istore 6, 2) := by decide +kernel
theorem dX11_sheet_49 : decode cX11_sheet 49 = .ok (.iconst 0, 1) := by decide +kernel
theorem dX11_sheet_50 : decode cX11_sheet 50 = .ok (.istore 7, 2) := by decide +kernel
theorem dX11_sheet_52 : decode cX11_sheet 52 = .ok (.iload 7, 2) := by decide +kernel
theorem dX11_sheet_54 : decode cX11_sheet 54 = .ok (.aload_n 0, 1) := by decide +kernel
theorem dX11_sheet_55 : decode cX11_sheet 55 = .ok (.getfield 33, 3) := by decide +kernel
theorem dX11_sheet_58 : decode cX11_sheet 58 = .ok (.getfield 134, 3) := by decide +kernel
theorem dX11_sheet_61 : decode cX11_sheet 61 = .ok (.if_icmp .ge 62, 3) := by decide +kernel
theorem dX11_sheet_64 : decode cX11_sheet 64 = .ok (.aload_n 0, 1) := by decide +kernel
theorem dX11_sheet_65 : decode cX11_sheet 65 = .ok (.getfield 56, 3) := by decide +kernel
theorem dX11_sheet_68 : decode cX11_sheet 68 = .ok (.getfield 189, 3) := by decide +kernel
theorem dX11_sheet_71 : decode cX11_sheet 71 = .ok (.iload 7, 2) := by decide +kernel
theorem dX11_sheet_73 : decode cX11_sheet 73 = .ok (.iload 7, 2) := by decide +kernel
theorem dX11_sheet_75 : decode cX11_sheet 75 = .ok (.iload_n 2, 1) := by decide +kernel
theorem dX11_sheet_76 : decode cX11_sheet 76 = .ok (.if_icmp .ge 17, 3) := by decide +kernel
theorem dX11_sheet_79 : decode cX11_sheet 79 = .ok (.iload_n 1, 1) := by decide +kernel
theorem dX11_sheet_80 : decode cX11_sheet 80 = .ok (.iload 6, 2) := by decide +kernel
theorem dX11_sheet_82 : decode cX11_sheet 82 = .ok (.invokestatic 221, 3) := by decide +kernel
theorem dX11_sheet_85 : decode cX11_sheet 85 = .ok (.bipush 9, 2) := by decide +kernel
theorem dX11_sheet_87 : decode cX11_sheet 87 = .ok (.invokestatic 225, 3) := by decide +kernel
theorem dX11_sheet_90 : decode cX11_sheet 90 = .ok (.goto 4, 3) := by decide +kernel
theorem dX11_sheet_93 : decode cX11_sheet 93 = .ok (.iconst 0, 1) := by decide +kernel
theorem dX11_sheet_94 : decode cX11_sheet 94 = .ok (.iastore, 1) := by decide +kernel
theorem dX11_sheet_95 : decode cX11_sheet 95 = .ok (.iload 5, 2) := by decide +kernel
theorem dX11_sheet_97 : decode cX11_sheet 97 = .ok (.aload_n 0, 1) := by decide +kernel
theorem dX11_sheet_98 : decode cX11_sheet 98 = .ok (.getfield 56, 3) := by decide +kernel
theorem dX11_sheet_101 : decode cX11_sheet 101 = .ok (.getfield 189, 3) := by decide +kernel
theorem dX11_sheet_104 : decode cX11_sheet 104 = .ok (.iload 7, 2) := by decide +kernel
theorem dX11_sheet_106 : decode cX11_sheet 106 = .ok (.iaload, 1) := by decide +kernel
theorem dX11_sheet_107 : decode cX11_sheet 107 = .ok (.iadd, 1) := by decide +kernel
theorem dX11_sheet_108 : decode cX11_sheet 108 = .ok (.istore 5, 2) := by decide +kernel
theorem dX11_sheet_110 : decode cX11_sheet 110 = .ok (.iload 6, 2) := by decide +kernel
theorem dX11_sheet_112 : decode cX11_sheet 112 = .ok (.iload 4, 2) := by decide +kernel
theorem dX11_sheet_114 : decode cX11_sheet 114 = .ok (.iadd, 1) := by decide +kernel
theorem dX11_sheet_115 : decode cX11_sheet 115 = .ok (.istore 6, 2) := by decide +kernel
theorem dX11_sheet_117 : decode cX11_sheet 117 = .ok (.iinc 7 1, 3) := by decide +kernel
theorem dX11_sheet_120 : decode cX11_sheet 120 = .ok (.goto (-68), 3) := by decide +kernel
theorem dX11_sheet_123 : decode cX11_sheet 123 = .ok (.iload 5, 2) := by decide +kernel
theorem dX11_sheet_125 : decode cX11_sheet 125 = .ok (.ireturn, 1) := by decide +kernel
theorem dX11_go_0 : decode cX11_go 0 = .ok (.aload_n 0, 1) := by decide +kernel
theorem dX11_go_1 : decode cX11_go 1 = .ok (.bipush 103, 2) := by decide +kernel
theorem dX11_go_3 : decode cX11_go 3 = .ok (.iload_n 1, 1) := by decide +kernel
theorem dX11_go_4 : decode cX11_go 4 = .ok (.iload_n 2, 1) := by decide +kernel
theorem dX11_go_5 : decode cX11_go 5 = .ok (.invokevirtual 228, 3) := by decide +kernel
theorem dX11_go_8 : decode cX11_go 8 = .ok (.ireturn, 1) := by decide +kernel
theorem dX11_home_0 : decode cX11_home 0 = .ok (.aload_n 0, 1) := by decide +kernel
theorem dX11_home_1 : decode cX11_home 1 = .ok (.bipush 104, 2) := by decide +kernel
theorem dX11_home_3 : decode cX11_home 3 = .ok (.iload_n 1, 1) := by decide +kernel
theorem dX11_home_4 : decode cX11_home 4 = .ok (.iconst 0, 1) := by decide +kernel
theorem dX11_home_5 : decode cX11_home 5 = .ok (.invokevirtual 228, 3) := by decide +kernel
theorem dX11_home_8 : decode cX11_home 8 = .ok (.ireturn, 1) := by decide +kernel
theorem dX11_spade_0 : decode cX11_spade 0 = .ok (.aload_n 0, 1) := by decide +kernel
theorem dX11_spade_1 : decode cX11_spade 1 = .ok (.bipush 115, 2) := by decide +kernel
theorem dX11_spade_3 : decode cX11_spade 3 = .ok (.iload_n 1, 1) := by decide +kernel
theorem dX11_spade_4 : decode cX11_spade 4 = .ok (.iconst 0, 1) := by decide +kernel
theorem dX11_spade_5 : decode cX11_spade 5 = .ok (.invokevirtual 228, 3) := by decide +kernel
theorem dX11_spade_8 : decode cX11_spade 8 = .ok (.ireturn, 1) := by decide +kernel
theorem dX11_treat_0 : decode cX11_treat 0 = .ok (.aload_n 0, 1) := by decide +kernel
theorem dX11_treat_1 : decode cX11_treat 1 = .ok (.bipush 116, 2) := by decide +kernel
theorem dX11_treat_3 : decode cX11_treat 3 = .ok (.iload_n 1, 1) := by decide +kernel
theorem dX11_treat_4 : decode cX11_treat 4 = .ok (.iconst 0, 1) := by decide +kernel
theorem dX11_treat_5 : decode cX11_treat 5 = .ok (.invokevirtual 228, 3) := by decide +kernel
theorem dX11_treat_8 : decode cX11_treat 8 = .ok (.ireturn, 1) := by decide +kernel
theorem dX11_moat_0 : decode cX11_moat 0 = .ok (.aload_n 0, 1) := by decide +kernel
theorem dX11_moat_1 : decode cX11_moat 1 = .ok (.bipush 109, 2) := by decide +kernel
theorem dX11_moat_3 : decode cX11_moat 3 = .ok (.iload_n 1, 1) := by decide +kernel
theorem dX11_moat_4 : decode cX11_moat 4 = .ok (.iconst 0, 1) := by decide +kernel
theorem dX11_moat_5 : decode cX11_moat 5 = .ok (.invokevirtual 228, 3) := by decide +kernel
theorem dX11_moat_8 : decode cX11_moat 8 = .ok (.ireturn, 1) := by decide +kernel
theorem dX11_build_0 : decode cX11_build 0 = .ok (.aload_n 0, 1) := by decide +kernel
theorem dX11_build_1 : decode cX11_build 1 = .ok (.bipush 98, 2) := by decide +kernel
theorem dX11_build_3 : decode cX11_build 3 = .ok (.iload_n 1, 1) := by decide +kernel
theorem dX11_build_4 : decode cX11_build 4 = .ok (.iconst 0, 1) := by decide +kernel
theorem dX11_build_5 : decode cX11_build 5 = .ok (.invokevirtual 228, 3) := by decide +kernel
theorem dX11_build_8 : decode cX11_build 8 = .ok (.ireturn, 1) := by decide +kernel
theorem dX11_tide_0 : decode cX11_tide 0 = .ok (.aload_n 0, 1) := by decide +kernel
theorem dX11_tide_1 : decode cX11_tide 1 = .ok (.bipush 119, 2) := by decide +kernel
theorem dX11_tide_3 : decode cX11_tide 3 = .ok (.iconst 0, 1) := by decide +kernel
theorem dX11_tide_4 : decode cX11_tide 4 = .ok (.iconst 0, 1) := by decide +kernel
theorem dX11_tide_5 : decode cX11_tide 5 = .ok (.invokevirtual 228, 3) := by decide +kernel
theorem dX11_tide_8 : decode cX11_tide 8 = .ok (.ireturn, 1) := by decide +kernel
theorem dX11_pump_0 : decode cX11_pump 0 = .ok (.aload_n 0, 1) := by decide +kernel
theorem dX11_pump_1 : decode cX11_pump 1 = .ok (.bipush 112, 2) := by decide +kernel
theorem dX11_pump_3 : decode cX11_pump 3 = .ok (.iload_n 1, 1) := by decide +kernel
theorem dX11_pump_4 : decode cX11_pump 4 = .ok (.iconst 0, 1) := by decide +kernel
theorem dX11_pump_5 : decode cX11_pump 5 = .ok (.invokevirtual 228, 3) := by decide +kernel
theorem dX11_pump_8 : decode cX11_pump 8 = .ok (.ireturn, 1) := by decide +kernel
theorem dX11_summer_0 : decode cX11_summer 0 = .ok (.aload_n 0, 1) := by decide +kernel
theorem dX11_summer_1 : decode cX11_summer 1 = .ok (.invokevirtual 232, 3) := by decide +kernel
theorem dX11_summer_4 : decode cX11_summer 4 = .ok (.istore_n 1, 1) := by decide +kernel
theorem dX11_summer_5 : decode cX11_summer 5 = .ok (.aload_n 0, 1) := by decide +kernel
theorem dX11_summer_6 : decode cX11_summer 6 = .ok (.getfield 10, 3) := by decide +kernel
theorem dX11_summer_9 : decode cX11_summer 9 = .ok (.getfield 114, 3) := by decide +kernel
theorem dX11_summer_12 : decode cX11_summer 12 = .ok (.istore_n 2, 1) := by decide +kernel
theorem dX11_summer_13 : decode cX11_summer 13 = .ok (.aload_n 0, 1) := by decide +kernel
theorem dX11_summer_14 : decode cX11_summer 14 = .ok (.getfield 10, 3) := by decide +kernel
theorem dX11_summer_17 : decode cX11_summer 17 = .ok (.iconst 0, 1) := by decide +kernel
theorem dX11_summer_18 : decode cX11_summer 18 = .ok (.putfield 114, 3) := by decide +kernel
theorem dX11_summer_21 : decode cX11_summer 21 = .ok (.iload_n 1, 1) := by decide +kernel
theorem dX11_summer_22 : decode cX11_summer 22 = .ok (.iconst (-1), 1) := by decide +kernel
theorem dX11_summer_23 : decode cX11_summer 23 = .ok (.if_icmp .eq 7, 3) := by decide +kernel
theorem dX11_summer_26 : decode cX11_summer 26 = .ok (.iconst (-1), 1) := by decide +kernel
theorem dX11_summer_27 : decode cX11_summer 27 = .ok (.iload_n 1, 1) := by decide +kernel
theorem dX11_summer_28 : decode cX11_summer 28 = .ok (.isub, 1) := by decide +kernel
theorem dX11_summer_29 : decode cX11_summer 29 = .ok (.ireturn, 1) := by decide +kernel
theorem dX11_summer_30 : decode cX11_summer 30 = .ok (.aload_n 0, 1) := by decide +kernel
theorem dX11_summer_31 : decode cX11_summer 31 = .ok (.getfield 66, 3) := by decide +kernel
theorem dX11_summer_34 : decode cX11_summer 34 = .ok (.aload_n 0, 1) := by decide +kernel
theorem dX11_summer_35 : decode cX11_summer 35 = .ok (.getfield 56, 3) := by decide +kernel
theorem dX11_summer_38 : decode cX11_summer 38 = .ok (.invokevirtual 236, 3) := by decide +kernel
theorem dX11_summer_41 : decode cX11_summer 41 = .ok (.iconst 0, 1) := by decide +kernel
theorem dX11_summer_42 : decode cX11_summer 42 = .ok (.istore_n 3, 1) := by decide +kernel
theorem dX11_summer_43 : decode cX11_summer 43 = .ok (.iconst 0, 1) := by decide +kernel
theorem dX11_summer_44 : decode cX11_summer 44 = .ok (.istore 4, 2) := by decide +kernel
theorem dX11_summer_46 : decode cX11_summer 46 = .ok (.iconst 0, 1) := by decide +kernel
theorem dX11_summer_47 : decode cX11_summer 47 = .ok (.istore 5, 2) := by decide +kernel
theorem dX11_summer_49 : decode cX11_summer 49 = .ok (.iload 5, 2) := by decide +kernel
theorem dX11_summer_51 : decode cX11_summer 51 = .ok (.iload_n 2, 1) := by decide +kernel
theorem dX11_summer_52 : decode cX11_summer 52 = .ok (.if_icmp .ge 104, 3) := by decide +kernel
theorem dX11_summer_55 : decode cX11_summer 55 = .ok (.iload 4, 2) := by decide +kernel
theorem dX11_summer_57 : decode cX11_summer 57 = .ok (.ifCond .ne 99, 3) := by decide +kernel
theorem dX11_summer_60 : decode cX11_summer 60 = .ok (.aload_n 0, 1) := by decide +kernel
theorem dX11_summer_61 : decode cX11_summer 61 = .ok (.getfield 10, 3) := by decide +kernel
theorem dX11_summer_64 : decode cX11_summer 64 = .ok (.getfield 240, 3) := by decide +kernel
theorem dX11_summer_67 : decode cX11_summer 67 = .ok (.iload 5, 2) := by decide +kernel
theorem dX11_summer_69 : decode cX11_summer 69 = .ok (.caload, 1) := by decide +kernel
theorem dX11_summer_70 : decode cX11_summer 70 = .ok (.istore 6, 2) := by decide +kernel
theorem dX11_summer_72 : decode cX11_summer 72 = .ok (.iload 6, 2) := by decide +kernel
theorem dX11_summer_74 : decode cX11_summer 74 = .ok (.invokestatic 244, 3) := by decide +kernel
theorem dX11_summer_77 : decode cX11_summer 77 = .ok (.istore 7, 2) := by decide +kernel
theorem dX11_summer_79 : decode cX11_summer 79 = .ok (.iload 7, 2) := by decide +kernel
theorem dX11_summer_81 : decode cX11_summer 81 = .ok (.ifCond .le 14, 3) := by decide +kernel
theorem dX11_summer_84 : decode cX11_summer 84 = .ok (.aload_n 0, 1) := by decide +kernel
theorem dX11_summer_85 : decode cX11_summer 85 = .ok (.iload 5, 2) := by decide +kernel
theorem dX11_summer_87 : decode cX11_summer 87 = .ok (.iconst 1, 1) := by decide +kernel
theorem dX11_summer_88 : decode cX11_summer 88 = .ok (.iadd, 1) := by decide +kernel
theorem dX11_summer_89 : decode cX11_summer 89 = .ok (.invokevirtual 247, 3) := by decide +kernel
theorem dX11_summer_92 : decode cX11_summer 92 = .ok (.goto 4, 3) := by decide +kernel
theorem dX11_summer_95 : decode cX11_summer 95 = .ok (.iconst 0, 1) := by decide +kernel
theorem dX11_summer_96 : decode cX11_summer 96 = .ok (.istore 8, 2) := by decide +kernel
theorem dX11_summer_98 : decode cX11_summer 98 = .ok (.iload 7, 2) := by decide +kernel
theorem dX11_summer_100 : decode cX11_summer 100 = .ok (.iconst 1, 1) := by decide +kernel
theorem dX11_summer_101 : decode cX11_summer 101 = .ok (.if_icmp .le 14, 3) := by decide +kernel
theorem dX11_summer_104 : decode cX11_summer 104 = .ok (.aload_n 0, 1) := by decide +kernel
theorem dX11_summer_105 : decode cX11_summer 105 = .ok (.iload 5, 2) := by decide +kernel
theorem dX11_summer_107 : decode cX11_summer 107 = .ok (.iconst 2, 1) := by decide +kernel
theorem dX11_summer_108 : decode cX11_summer 108 = .ok (.iadd, 1) := by decide +kernel
theorem dX11_summer_109 : decode cX11_summer 109 = .ok (.invokevirtual 247, 3) := by decide +kernel
theorem dX11_summer_112 : decode cX11_summer 112 = .ok (.goto 4, 3) := by decide +kernel
theorem dX11_summer_115 : decode cX11_summer 115 = .ok (.iconst 0, 1) := by decide +kernel
theorem dX11_summer_116 : decode cX11_summer 116 = .ok (.istore 9, 2) := by decide +kernel
theorem dX11_summer_118 : decode cX11_summer 118 = .ok (.aload_n 0, 1) := by decide +kernel
theorem dX11_summer_119 : decode cX11_summer 119 = .ok (.iload 6, 2) := by decide +kernel
theorem dX11_summer_121 : decode cX11_summer 121 = .ok (.iload 8, 2) := by decide +kernel
theorem dX11_summer_123 : decode cX11_summer 123 = .ok (.iload 9, 2) := by decide +kernel
theorem dX11_summer_125 : decode cX11_summer 125 = .ok (.invokevirtual 250, 3) := by decide +kernel
theorem dX11_summer_128 : decode cX11_summer 128 = .ok (.ifCond .ge 9, 3) := by decide +kernel
theorem dX11_summer_131 : decode cX11_summer 131 = .ok (.iconst 1, 1) := by decide +kernel
theorem dX11_summer_132 : decode cX11_summer 132 = .ok (.istore 4, 2) := by decide +kernel
theorem dX11_summer_134 : decode cX11_summer 134 = .ok (.goto 6, 3) := by decide +kernel
theorem dX11_summer_137 : decode cX11_summer 137 = .ok (.iinc 3 1, 3) := by decide +kernel
theorem dX11_summer_140 : decode cX11_summer 140 = .ok (.iload 5, 2) := by decide +kernel
theorem dX11_summer_142 : decode cX11_summer 142 = .ok (.iconst 1, 1) := by decide +kernel
theorem dX11_summer_143 : decode cX11_summer 143 = .ok (.iload 7, 2) := by decide +kernel
theorem dX11_summer_145 : decode cX11_summer 145 = .ok (.iconst 0, 1) := by decide +kernel
theorem dX11_summer_146 : decode cX11_summer 146 = .ok (.invokestatic 253, 3) := by decide +kernel
theorem dX11_summer_149 : decode cX11_summer 149 = .ok (.iadd, 1) := by decide +kernel
theorem dX11_summer_150 : decode cX11_summer 150 = .ok (.iadd, 1) := by decide +kernel
theorem dX11_summer_151 : decode cX11_summer 151 = .ok (.istore 5, 2) := by decide +kernel
theorem dX11_summer_153 : decode cX11_summer 153 = .ok (.goto (-104), 3) := by decide +kernel
theorem dX11_summer_156 : decode cX11_summer 156 = .ok (.iload_n 3, 1) := by decide +kernel
theorem dX11_summer_157 : decode cX11_summer 157 = .ok (.ifCond .le 10, 3) := by decide +kernel
theorem dX11_summer_160 : decode cX11_summer 160 = .ok (.aload_n 0, 1) := by decide +kernel
theorem dX11_summer_161 : decode cX11_summer 161 = .ok (.getfield 66, 3) := by decide +kernel
theorem dX11_summer_164 : decode cX11_summer 164 = .ok (.invokevirtual 258, 3) := by decide +kernel
theorem dX11_summer_167 : decode cX11_summer 167 = .ok (.aload_n 0, 1) := by decide +kernel
theorem dX11_summer_168 : decode cX11_summer 168 = .ok (.getfield 19, 3) := by decide +kernel
theorem dX11_summer_171 : decode cX11_summer 171 = .ok (.iload 4, 2) := by decide +kernel
theorem dX11_summer_173 : decode cX11_summer 173 = .ok (.i2l, 1) := by decide +kernel
theorem dX11_summer_174 : decode cX11_summer 174 = .ok (.aload_n 0, 1) := by decide +kernel
theorem dX11_summer_175 : decode cX11_summer 175 = .ok (.getfield 56, 3) := by decide +kernel
theorem dX11_summer_178 : decode cX11_summer 178 = .ok (.invokevirtual 261, 3) := by decide +kernel
theorem dX11_summer_181 : decode cX11_summer 181 = .ok (.invokestatic 210, 3) := by decide +kernel
theorem dX11_summer_184 : decode cX11_summer 184 = .ok (.i2l, 1) := by decide +kernel
theorem dX11_summer_185 : decode cX11_summer 185 = .ok (.invokevirtual 264, 3) := by decide +kernel
theorem dX11_summer_188 : decode cX11_summer 188 = .ok (.iload_n 3, 1) := by decide +kernel
theorem dX11_summer_189 : decode cX11_summer 189 = .ok (.ireturn, 1) := by decide +kernel
theorem dX11_undo_0 : decode cX11_undo 0 = .ok (.aload_n 0, 1) := by decide +kernel
theorem dX11_undo_1 : decode cX11_undo 1 = .ok (.getfield 66, 3) := by decide +kernel
theorem dX11_undo_4 : decode cX11_undo 4 = .ok (.aload_n 0, 1) := by decide +kernel
theorem dX11_undo_5 : decode cX11_undo 5 = .ok (.getfield 56, 3) := by decide +kernel
theorem dX11_undo_8 : decode cX11_undo 8 = .ok (.invokevirtual 268, 3) := by decide +kernel
theorem dX11_undo_11 : decode cX11_undo 11 = .ok (.ireturn, 1) := by decide +kernel
theorem dX11_level_0 : decode cX11_level 0 = .ok (.iload_n 1, 1) := by decide +kernel
theorem dX11_level_1 : decode cX11_level 1 = .ok (.iconst 0, 1) := by decide +kernel
theorem dX11_level_2 : decode cX11_level 2 = .ok (.bipush 99, 2) := by decide +kernel
theorem dX11_level_4 : decode cX11_level 4 = .ok (.invokestatic 203, 3) := by decide +kernel
theorem dX11_level_7 : decode cX11_level 7 = .ok (.ifCond .ne 5, 3) := by decide +kernel
theorem dX11_level_10 : decode cX11_level 10 = .ok (.iconst (-1), 1) := by decide +kernel
theorem dX11_level_11 : decode cX11_level 11 = .ok (.ireturn, 1) := by decide +kernel
theorem dX11_level_12 : decode cX11_level 12 = .ok (.aload_n 0, 1) := by decide +kernel
theorem dX11_level_13 : decode cX11_level 13 = .ok (.aload_n 0, 1) := by decide +kernel
theorem dX11_level_14 : decode cX11_level 14 = .ok (.getfield 40, 3) := by decide +kernel
theorem dX11_level_17 : decode cX11_level 17 = .ok (.aload_n 0, 1) := by decide +kernel
theorem dX11_level_18 : decode cX11_level 18 = .ok (.getfield 56, 3) := by decide +kernel
theorem dX11_level_21 : decode cX11_level 21 = .ok (.iload_n 1, 1) := by decide +kernel
theorem dX11_level_22 : decode cX11_level 22 = .ok (.invokevirtual 272, 3) := by decide +kernel
theorem dX11_level_25 : decode cX11_level 25 = .ok (.istore_n 2, 1) := by decide +kernel
theorem dX11_level_26 : decode cX11_level 26 = .ok (.aload_n 0, 1) := by decide +kernel
theorem dX11_level_27 : decode cX11_level 27 = .ok (.getfield 19, 3) := by decide +kernel
theorem dX11_level_30 : decode cX11_level 30 = .ok (.aload_n 0, 1) := by decide +kernel
theorem dX11_level_31 : decode cX11_level 31 = .ok (.getfield 56, 3) := by decide +kernel
theorem dX11_level_34 : decode cX11_level 34 = .ok (.iload_n 2, 1) := by decide +kernel
theorem dX11_level_35 : decode cX11_level 35 = .ok (.invokevirtual 276, 3) := by decide +kernel
theorem dX11_level_38 : decode cX11_level 38 = .ok (.i2l, 1) := by decide +kernel
theorem dX11_level_39 : decode cX11_level 39 = .ok (.invokevirtual 279, 3) := by decide +kernel
theorem dX11_level_42 : decode cX11_level 42 = .ok (.iload_n 2, 1) := by decide +kernel
theorem dX11_level_43 : decode cX11_level 43 = .ok (.ireturn, 1) := by decide +kernel
theorem dX11_holds_0 : decode cX11_holds 0 = .ok (.aload_n 0, 1) := by decide +kernel
theorem dX11_holds_1 : decode cX11_holds 1 = .ok (.getfield 60, 3) := by decide +kernel
theorem dX11_holds_4 : decode cX11_holds 4 = .ok (.aload_n 0, 1) := by decide +kernel
theorem dX11_holds_5 : decode cX11_holds 5 = .ok (.getfield 56, 3) := by decide +kernel
theorem dX11_holds_8 : decode cX11_holds 8 = .ok (.invokevirtual 282, 3) := by decide +kernel
theorem dX11_holds_11 : decode cX11_holds 11 = .ok (.iconst 1, 1) := by decide +kernel
theorem dX11_holds_12 : decode cX11_holds 12 = .ok (.istore_n 1, 1) := by decide +kernel
theorem dX11_holds_13 : decode cX11_holds 13 = .ok (.iload_n 1, 1) := by decide +kernel
theorem dX11_holds_14 : decode cX11_holds 14 = .ok (.bipush 99, 2) := by decide +kernel
theorem dX11_holds_16 : decode cX11_holds 16 = .ok (.if_icmp .gt 49, 3) := by decide +kernel
theorem dX11_holds_19 : decode cX11_holds 19 = .ok (.aload_n 0, 1) := by decide +kernel
theorem dX11_holds_20 : decode cX11_holds 20 = .ok (.aload_n 0, 1) := by decide +kernel
theorem dX11_holds_21 : decode cX11_holds 21 = .ok (.getfield 40, 3) := by decide +kernel
theorem dX11_holds_24 : decode cX11_holds 24 = .ok (.aload_n 0, 1) := by decide +kernel
theorem dX11_holds_25 : decode cX11_holds 25 = .ok (.getfield 60, 3) := by decide +kernel
theorem dX11_holds_28 : decode cX11_holds 28 = .ok (.iconst 0, 1) := by decide +kernel
theorem dX11_holds_29 : decode cX11_holds 29 = .ok (.invokevirtual 272, 3) := by decide +kernel
theorem dX11_holds_32 : decode cX11_holds 32 = .ok (.istore_n 2, 1) := by decide +kernel
theorem dX11_holds_33 : decode cX11_holds 33 = .ok (.aload_n 0, 1) := by decide +kernel
theorem dX11_holds_34 : decode cX11_holds 34 = .ok (.getfield 60, 3) := by decide +kernel
theorem dX11_holds_37 : decode cX11_holds 37 = .ok (.iload_n 2, 1) := by decide +kernel
theorem dX11_holds_38 : decode cX11_holds 38 = .ok (.invokevirtual 285, 3) := by decide +kernel
theorem dX11_holds_41 : decode cX11_holds 41 = .ok (.istore_n 3, 1) := by decide +kernel
theorem dX11_holds_42 : decode cX11_holds 42 = .ok (.iload_n 3, 1) := by decide +kernel
theorem dX11_holds_43 : decode cX11_holds 43 = .ok (.ifCond .eq 16, 3) := by decide +kernel
theorem dX11_holds_46 : decode cX11_holds 46 = .ok (.aload_n 0, 1) := by decide +kernel
theorem dX11_holds_47 : decode cX11_holds 47 = .ok (.getfield 19, 3) := by decide +kernel
theorem dX11_holds_50 : decode cX11_holds 50 = .ok (.iload_n 3, 1) := by decide +kernel
theorem dX11_holds_51 : decode cX11_holds 51 = .ok (.i2l, 1) := by decide +kernel
theorem dX11_holds_52 : decode cX11_holds 52 = .ok (.iload_n 2, 1) := by decide +kernel
theorem dX11_holds_53 : decode cX11_holds 53 = .ok (.i2l, 1) := by decide +kernel
theorem dX11_holds_54 : decode cX11_holds 54 = .ok (.invokevirtual 264, 3) := by decide +kernel
theorem dX11_holds_57 : decode cX11_holds 57 = .ok (.iload_n 1, 1) := by decide +kernel
theorem dX11_holds_58 : decode cX11_holds 58 = .ok (.ireturn, 1) := by decide +kernel
theorem dX11_holds_59 : decode cX11_holds 59 = .ok (.iinc 1 1, 3) := by decide +kernel
theorem dX11_holds_62 : decode cX11_holds 62 = .ok (.goto (-49), 3) := by decide +kernel
theorem dX11_holds_65 : decode cX11_holds 65 = .ok (.bipush (-2), 2) := by decide +kernel
theorem dX11_holds_67 : decode cX11_holds 67 = .ok (.ireturn, 1) := by decide +kernel
theorem dX11_tides_0 : decode cX11_tides 0 = .ok (.iload_n 1, 1) := by decide +kernel
theorem dX11_tides_1 : decode cX11_tides 1 = .ok (.iconst 0, 1) := by decide +kernel
theorem dX11_tides_2 : decode cX11_tides 2 = .ok (.bipush 60, 2) := by decide +kernel
theorem dX11_tides_4 : decode cX11_tides 4 = .ok (.invokestatic 203, 3) := by decide +kernel
theorem dX11_tides_7 : decode cX11_tides 7 = .ok (.ifCond .ne 5, 3) := by decide +kernel
theorem dX11_tides_10 : decode cX11_tides 10 = .ok (.iconst (-1), 1) := by decide +kernel
theorem dX11_tides_11 : decode cX11_tides 11 = .ok (.ireturn, 1) := by decide +kernel
theorem dX11_tides_12 : decode cX11_tides 12 = .ok (.aload_n 0, 1) := by decide +kernel
theorem dX11_tides_13 : decode cX11_tides 13 = .ok (.aload_n 0, 1) := by decide +kernel
theorem dX11_tides_14 : decode cX11_tides 14 = .ok (.getfield 40, 3) := by decide +kernel
theorem dX11_tides_17 : decode cX11_tides 17 = .ok (.iload_n 1, 1) := by decide +kernel
theorem dX11_tides_18 : decode cX11_tides 18 = .ok (.invokevirtual 288, 3) := by decide +kernel
theorem dX11_tides_21 : decode cX11_tides 21 = .ok (.istore_n 2, 1) := by decide +kernel
theorem dX11_tides_22 : decode cX11_tides 22 = .ok (.aload_n 0, 1) := by decide +kernel
theorem dX11_tides_23 : decode cX11_tides 23 = .ok (.getfield 19, 3) := by decide +kernel
theorem dX11_tides_26 : decode cX11_tides 26 = .ok (.aload_n 0, 1) := by decide +kernel
theorem dX11_tides_27 : decode cX11_tides 27 = .ok (.getfield 60, 3) := by decide +kernel
theorem dX11_tides_30 : decode cX11_tides 30 = .ok (.invokevirtual 261, 3) := by decide +kernel
theorem dX11_tides_33 : decode cX11_tides 33 = .ok (.invokestatic 210, 3) := by decide +kernel
theorem dX11_tides_36 : decode cX11_tides 36 = .ok (.i2l, 1) := by decide +kernel
theorem dX11_tides_37 : decode cX11_tides 37 = .ok (.aload_n 0, 1) := by decide +kernel
theorem dX11_tides_38 : decode cX11_tides 38 = .ok (.getfield 60, 3) := by decide +kernel
theorem dX11_tides_41 : decode cX11_tides 41 = .ok (.invokevirtual 292, 3) := by decide +kernel
theorem dX11_tides_44 : decode cX11_tides 44 = .ok (.i2l, 1) := by decide +kernel
theorem dX11_tides_45 : decode cX11_tides 45 = .ok (.invokevirtual 264, 3) := by decide +kernel
theorem dX11_tides_48 : decode cX11_tides 48 = .ok (.iload_n 2, 1) := by decide +kernel
theorem dX11_tides_49 : decode cX11_tides 49 = .ok (.ireturn, 1) := by decide +kernel
theorem dX11_spells_0 : decode cX11_spells 0 = .ok (.aload_n 0, 1) := by decide +kernel
theorem dX11_spells_1 : decode cX11_spells 1 = .ok (.aload_n 0, 1) := by decide +kernel
theorem dX11_spells_2 : decode cX11_spells 2 = .ok (.getfield 40, 3) := by decide +kernel
theorem dX11_spells_5 : decode cX11_spells 5 = .ok (.aload_n 0, 1) := by decide +kernel
theorem dX11_spells_6 : decode cX11_spells 6 = .ok (.getfield 56, 3) := by decide +kernel
theorem dX11_spells_9 : decode cX11_spells 9 = .ok (.iconst 0, 1) := by decide +kernel
theorem dX11_spells_10 : decode cX11_spells 10 = .ok (.invokevirtual 272, 3) := by decide +kernel
theorem dX11_spells_13 : decode cX11_spells 13 = .ok (.istore_n 1, 1) := by decide +kernel
theorem dX11_spells_14 : decode cX11_spells 14 = .ok (.aload_n 0, 1) := by decide +kernel
theorem dX11_spells_15 : decode cX11_spells 15 = .ok (.getfield 60, 3) := by decide +kernel
theorem dX11_spells_18 : decode cX11_spells 18 = .ok (.aload_n 0, 1) := by decide +kernel
theorem dX11_spells_19 : decode cX11_spells 19 = .ok (.getfield 56, 3) := by decide +kernel
theorem dX11_spells_22 : decode cX11_spells 22 = .ok (.invokevirtual 282, 3) := by decide +kernel
theorem dX11_spells_25 : decode cX11_spells 25 = .ok (.iconst 0, 1) := by decide +kernel
theorem dX11_spells_26 : decode cX11_spells 26 = .ok (.istore_n 2, 1) := by decide +kernel
theorem dX11_spells_27 : decode cX11_spells 27 = .ok (.iload_n 2, 1) := by decide +kernel
theorem dX11_spells_28 : decode cX11_spells 28 = .ok (.bipush 30, 2) := by decide +kernel
theorem dX11_spells_30 : decode cX11_spells 30 = .ok (.if_icmp .gt 29, 3) := by decide +kernel
theorem dX11_spells_33 : decode cX11_spells 33 = .ok (.aload_n 0, 1) := by decide +kernel
theorem dX11_spells_34 : decode cX11_spells 34 = .ok (.getfield 60, 3) := by decide +kernel
theorem dX11_spells_37 : decode cX11_spells 37 = .ok (.iload_n 1, 1) := by decide +kernel
theorem dX11_spells_38 : decode cX11_spells 38 = .ok (.invokevirtual 276, 3) := by decide +kernel
theorem dX11_spells_41 : decode cX11_spells 41 = .ok (.ifCond .ne 5, 3) := by decide +kernel
theorem dX11_spells_44 : decode cX11_spells 44 = .ok (.iload_n 2, 1) := by decide +kernel
theorem dX11_spells_45 : decode cX11_spells 45 = .ok (.ireturn, 1) := by decide +kernel
theorem dX11_spells_46 : decode cX11_spells 46 = .ok (.aload_n 0, 1) := by decide +kernel
theorem dX11_spells_47 : decode cX11_spells 47 = .ok (.getfield 60, 3) := by decide +kernel
theorem dX11_spells_50 : decode cX11_spells 50 = .ok (.invokevirtual 295, 3) := by decide +kernel
theorem dX11_spells_53 : decode cX11_spells 53 = .ok (.iinc 2 1, 3) := by decide +kernel
theorem dX11_spells_56 : decode cX11_spells 56 = .ok (.goto (-29), 3) := by decide +kernel
theorem dX11_spells_59 : decode cX11_spells 59 = .ok (.bipush (-2), 2) := by decide +kernel
theorem dX11_spells_61 : decode cX11_spells 61 = .ok (.ireturn, 1) := by decide +kernel
theorem dX11_floods_0 : decode cX11_floods 0 = .ok (.aload_n 0, 1) := by decide +kernel
theorem dX11_floods_1 : decode cX11_floods 1 = .ok (.getfield 26, 3) := by decide +kernel
theorem dX11_floods_4 : decode cX11_floods 4 = .ok (.iload_n 1, 1) := by decide +kernel
theorem dX11_floods_5 : decode cX11_floods 5 = .ok (.invokevirtual 143, 3) := by decide +kernel
theorem dX11_floods_8 : decode cX11_floods 8 = .ok (.ifCond .eq 14, 3) := by decide +kernel
theorem dX11_floods_11 : decode cX11_floods 11 = .ok (.iload_n 2, 1) := by decide +kernel
theorem dX11_floods_12 : decode cX11_floods 12 = .ok (.iconst 1, 1) := by decide +kernel
theorem dX11_floods_13 : decode cX11_floods 13 = .ok (.sipush 999, 3) := by decide +kernel
theorem dX11_floods_16 : decode cX11_floods 16 = .ok (.invokestatic 203, 3) := by decide +kernel
theorem dX11_floods_19 : decode cX11_floods 19 = .ok (.ifCond .ne 5, 3) := by decide +kernel
theorem dX11_floods_22 : decode cX11_floods 22 = .ok (.iconst (-1), 1) := by decide +kernel
theorem dX11_floods_23 : decode cX11_floods 23 = .ok (.ireturn, 1) := by decide +kernel
theorem dX11_floods_24 : decode cX11_floods 24 = .ok (.aload_n 0, 1) := by decide +kernel
theorem dX11_floods_25 : decode cX11_floods 25 = .ok (.getfield 60, 3) := by decide +kernel
theorem dX11_floods_28 : decode cX11_floods 28 = .ok (.getfield 162, 3) := by decide +kernel
theorem dX11_floods_31 : decode cX11_floods 31 = .ok (.iconst 0, 1) := by decide +kernel
theorem dX11_floods_32 : decode cX11_floods 32 = .ok (.invokestatic 215, 3) := by decide +kernel
theorem dX11_floods_35 : decode cX11_floods 35 = .ok (.aload_n 0, 1) := by decide +kernel
theorem dX11_floods_36 : decode cX11_floods 36 = .ok (.getfield 60, 3) := by decide +kernel
theorem dX11_floods_39 : decode cX11_floods 39 = .ok (.getfield 162, 3) := by decide +kernel
theorem dX11_floods_42 : decode cX11_floods 42 = .ok (.iload_n 1, 1) := by decide +kernel
theorem dX11_floods_43 : decode cX11_floods 43 = .ok (.iload_n 2, 1) := by decide +kernel
theorem dX11_floods_44 : decode cX11_floods 44 = .ok (.iastore, 1) := by decide +kernel
theorem dX11_floods_45 : decode cX11_floods 45 = .ok (.aload_n 0, 1) := by decide +kernel
theorem dX11_floods_46 : decode cX11_floods 46 = .ok (.getfield 60, 3) := by decide +kernel
theorem dX11_floods_49 : decode cX11_floods 49 = .ok (.invokevirtual 298, 3) := by decide +kernel
theorem dX11_floods_52 : decode cX11_floods 52 = .ok (.aload_n 0, 1) := by decide +kernel
theorem dX11_floods_53 : decode cX11_floods 53 = .ok (.getfield 19, 3) := by decide +kernel
theorem dX11_floods_56 : decode cX11_floods 56 = .ok (.aload_n 0, 1) := by decide +kernel
theorem dX11_floods_57 : decode cX11_floods 57 = .ok (.getfield 60, 3) := by decide +kernel
theorem dX11_floods_60 : decode cX11_floods 60 = .ok (.invokevirtual 261, 3) := by decide +kernel
theorem dX11_floods_63 : decode cX11_floods 63 = .ok (.invokestatic 210, 3) := by decide +kernel
theorem dX11_floods_66 : decode cX11_floods 66 = .ok (.i2l, 1) := by decide +kernel
theorem dX11_floods_67 : decode cX11_floods 67 = .ok (.aload_n 0, 1) := by decide +kernel
theorem dX11_floods_68 : decode cX11_floods 68 = .ok (.getfield 60, 3) := by decide +kernel
theorem dX11_floods_71 : decode cX11_floods 71 = .ok (.invokevirtual 292, 3) := by decide +kernel
theorem dX11_floods_74 : decode cX11_floods 74 = .ok (.i2l, 1) := by decide +kernel
theorem dX11_floods_75 : decode cX11_floods 75 = .ok (.invokevirtual 264, 3) := by decide +kernel
theorem dX11_floods_78 : decode cX11_floods 78 = .ok (.aload_n 0, 1) := by decide +kernel
theorem dX11_floods_79 : decode cX11_floods 79 = .ok (.getfield 60, 3) := by decide +kernel
theorem dX11_floods_82 : decode cX11_floods 82 = .ok (.invokevirtual 261, 3) := by decide +kernel
theorem dX11_floods_85 : decode cX11_floods 85 = .ok (.ireturn, 1) := by decide +kernel
theorem dX11_raise_0 : decode cX11_raise 0 = .ok (.aload_n 0, 1) := by decide +kernel
theorem dX11_raise_1 : decode cX11_raise 1 = .ok (.getfield 26, 3) := by decide +kernel
theorem dX11_raise_4 : decode cX11_raise 4 = .ok (.iload_n 1, 1) := by decide +kernel
theorem dX11_raise_5 : decode cX11_raise 5 = .ok (.invokevirtual 143, 3) := by decide +kernel
theorem dX11_raise_8 : decode cX11_raise 8 = .ok (.ifCond .eq 14, 3) := by decide +kernel
theorem dX11_raise_11 : decode cX11_raise 11 = .ok (.iload_n 2, 1) := by decide +kernel
theorem dX11_raise_12 : decode cX11_raise 12 = .ok (.iconst 1, 1) := by decide +kernel
theorem dX11_raise_13 : decode cX11_raise 13 = .ok (.sipush 999, 3) := by decide +kernel
theorem dX11_raise_16 : decode cX11_raise 16 = .ok (.invokestatic 203, 3) := by decide +kernel
theorem dX11_raise_19 : decode cX11_raise 19 = .ok (.ifCond .ne 5, 3) := by decide +kernel
theorem dX11_raise_22 : decode cX11_raise 22 = .ok (.iconst (-1), 1) := by decide +kernel
theorem dX11_raise_23 : decode cX11_raise 23 = .ok (.ireturn, 1) := by decide +kernel
theorem dX11_raise_24 : decode cX11_raise 24 = .ok (.iconst 0, 1) := by decide +kernel
theorem dX11_raise_25 : decode cX11_raise 25 = .ok (.istore_n 3, 1) := by decide +kernel
theorem dX11_raise_26 : decode cX11_raise 26 = .ok (.iload_n 1, 1) := by decide +kernel
theorem dX11_raise_27 : decode cX11_raise 27 = .ok (.ifCond .le 28, 3) := by decide +kernel
theorem dX11_raise_30 : decode cX11_raise 30 = .ok (.iload_n 2, 1) := by decide +kernel
theorem dX11_raise_31 : decode cX11_raise 31 = .ok (.aload_n 0, 1) := by decide +kernel
theorem dX11_raise_32 : decode cX11_raise 32 = .ok (.getfield 26, 3) := by decide +kernel
theorem dX11_raise_35 : decode cX11_raise 35 = .ok (.getfield 165, 3) := by decide +kernel
theorem dX11_raise_38 : decode cX11_raise 38 = .ok (.iload_n 1, 1) := by decide +kernel
theorem dX11_raise_39 : decode cX11_raise 39 = .ok (.iconst 1, 1) := by decide +kernel
theorem dX11_raise_40 : decode cX11_raise 40 = .ok (.isub, 1) := by decide +kernel
theorem dX11_raise_41 : decode cX11_raise 41 = .ok (.iaload, 1) := by decide +kernel
theorem dX11_raise_42 : decode cX11_raise 42 = .ok (.iconst 1, 1) := by decide +kernel
theorem dX11_raise_43 : decode cX11_raise 43 = .ok (.iadd, 1) := by decide +kernel
theorem dX11_raise_44 : decode cX11_raise 44 = .ok (.if_icmp .le 11, 3) := by decide +kernel
theorem dX11_raise_47 : decode cX11_raise 47 = .ok (.iload_n 3, 1) := by decide +kernel
theorem dX11_raise_48 : decode cX11_raise 48 = .ok (.iconst 1, 1) := by decide +kernel
theorem dX11_raise_49 : decode cX11_raise 49 = .ok (.iload_n 1, 1) := by decide +kernel
theorem dX11_raise_50 : decode cX11_raise 50 = .ok (.iconst 1, 1) := by decide +kernel
theorem dX11_raise_51 : decode cX11_raise 51 = .ok (.isub, 1) := by decide +kernel
theorem dX11_raise_52 : decode cX11_raise 52 = .ok (.ishl, 1) := by decide +kernel
theorem dX11_raise_53 : decode cX11_raise 53 = .ok (.ior, 1) := by decide +kernel
theorem dX11_raise_54 : decode cX11_raise 54 = .ok (.istore_n 3, 1) := by decide +kernel
theorem dX11_raise_55 : decode cX11_raise 55 = .ok (.iload_n 1, 1) := by decide +kernel
theorem dX11_raise_56 : decode cX11_raise 56 = .ok (.iconst 1, 1) := by decide +kernel
theorem dX11_raise_57 : decode cX11_raise 57 = .ok (.iadd, 1) := by decide +kernel
theorem dX11_raise_58 : decode cX11_raise 58 = .ok (.aload_n 0, 1) := by decide +kernel
theorem dX11_raise_59 : decode cX11_raise 59 = .ok (.getfield 26, 3) := by decide +kernel
theorem dX11_raise_62 : decode cX11_raise 62 = .ok (.getfield 131, 3) := by decide +kernel
theorem dX11_raise_65 : decode cX11_raise 65 = .ok (.if_icmp .ge 24, 3) := by decide +kernel
theorem dX11_raise_68 : decode cX11_raise 68 = .ok (.iload_n 2, 1) := by decide +kernel
theorem dX11_raise_69 : decode cX11_raise 69 = .ok (.aload_n 0, 1) := by decide +kernel
theorem dX11_raise_70 : decode cX11_raise 70 = .ok (.getfield 26, 3) := by decide +kernel
theorem dX11_raise_73 : decode cX11_raise 73 = .ok (.getfield 165, 3) := by decide +kernel
theorem dX11_raise_76 : decode cX11_raise 76 = .ok (.iload_n 1, 1) := by decide +kernel
theorem dX11_raise_77 : decode cX11_raise 77 = .ok (.iaload, 1) := by decide +kernel
theorem dX11_raise_78 : decode cX11_raise 78 = .ok (.iconst 1, 1) := by decide +kernel
theorem dX11_raise_79 : decode cX11_raise 79 = .ok (.iadd, 1) := by decide +kernel
theorem dX11_raise_80 : decode cX11_raise 80 = .ok (.if_icmp .le 9, 3) := by decide +kernel
theorem dX11_raise_83 : decode cX11_raise 83 = .ok (.iload_n 3, 1) := by decide +kernel
theorem dX11_raise_84 : decode cX11_raise 84 = .ok (.iconst 1, 1) := by decide +kernel
theorem dX11_raise_85 : decode cX11_raise 85 = .ok (.iload_n 1, 1) := by decide +kernel
theorem dX11_raise_86 : decode cX11_raise 86 = .ok (.ishl, 1) := by decide +kernel
theorem dX11_raise_87 : decode cX11_raise 87 = .ok (.ior, 1) := by decide +kernel
theorem dX11_raise_88 : decode cX11_raise 88 = .ok (.istore_n 3, 1) := by decide +kernel
theorem dX11_raise_89 : decode cX11_raise 89 = .ok (.iload_n 3, 1) := by decide +kernel
theorem dX11_raise_90 : decode cX11_raise 90 = .ok (.ifCond .eq 12, 3) := by decide +kernel
theorem dX11_raise_93 : decode cX11_raise 93 = .ok (.iload_n 2, 1) := by decide +kernel
theorem dX11_raise_94 : decode cX11_raise 94 = .ok (.bipush 10, 2) := by decide +kernel
theorem dX11_raise_96 : decode cX11_raise 96 = .ok (.if_icmp .le 6, 3) := by decide +kernel
theorem dX11_raise_99 : decode cX11_raise 99 = .ok (.bipush (-2), 2) := by decide +kernel
theorem dX11_raise_101 : decode cX11_raise 101 = .ok (.ireturn, 1) := by decide +kernel
theorem dX11_raise_102 : decode cX11_raise 102 = .ok (.aload_n 0, 1) := by decide +kernel
theorem dX11_raise_103 : decode cX11_raise 103 = .ok (.getfield 19, 3) := by decide +kernel
theorem dX11_raise_106 : decode cX11_raise 106 = .ok (.iload_n 3, 1) := by decide +kernel
theorem dX11_raise_107 : decode cX11_raise 107 = .ok (.i2l, 1) := by decide +kernel
theorem dX11_raise_108 : decode cX11_raise 108 = .ok (.invokevirtual 279, 3) := by decide +kernel
theorem dX11_raise_111 : decode cX11_raise 111 = .ok (.iload_n 3, 1) := by decide +kernel
theorem dX11_raise_112 : decode cX11_raise 112 = .ok (.invokestatic 210, 3) := by decide +kernel
theorem dX11_raise_115 : decode cX11_raise 115 = .ok (.ireturn, 1) := by decide +kernel
theorem dX11_crew_0 : decode cX11_crew 0 = .ok (.iload_n 1, 1) := by decide +kernel
theorem dX11_crew_1 : decode cX11_crew 1 = .ok (.aload_n 0, 1) := by decide +kernel
theorem dX11_crew_2 : decode cX11_crew 2 = .ok (.getfield 33, 3) := by decide +kernel
theorem dX11_crew_5 : decode cX11_crew 5 = .ok (.getfield 134, 3) := by decide +kernel
theorem dX11_crew_8 : decode cX11_crew 8 = .ok (.ishr, 1) := by decide +kernel
theorem dX11_crew_9 : decode cX11_crew 9 = .ok (.ifCond .ne 13, 3) := by decide +kernel
theorem dX11_crew_12 : decode cX11_crew 12 = .ok (.iload_n 2, 1) := by decide +kernel
theorem dX11_crew_13 : decode cX11_crew 13 = .ok (.iconst 1, 1) := by decide +kernel
theorem dX11_crew_14 : decode cX11_crew 14 = .ok (.bipush 9, 2) := by decide +kernel
theorem dX11_crew_16 : decode cX11_crew 16 = .ok (.invokestatic 203, 3) := by decide +kernel
theorem dX11_crew_19 : decode cX11_crew 19 = .ok (.ifCond .ne 5, 3) := by decide +kernel
theorem dX11_crew_22 : decode cX11_crew 22 = .ok (.iconst (-1), 1) := by decide +kernel
theorem dX11_crew_23 : decode cX11_crew 23 = .ok (.ireturn, 1) := by decide +kernel
theorem dX11_crew_24 : decode cX11_crew 24 = .ok (.iload_n 1, 1) := by decide +kernel
theorem dX11_crew_25 : decode cX11_crew 25 = .ok (.invokestatic 210, 3) := by decide +kernel
theorem dX11_crew_28 : decode cX11_crew 28 = .ok (.iconst 4, 1) := by decide +kernel
theorem dX11_crew_29 : decode cX11_crew 29 = .ok (.if_icmp .le 6, 3) := by decide +kernel
theorem dX11_crew_32 : decode cX11_crew 32 = .ok (.bipush (-3), 2) := by decide +kernel
theorem dX11_crew_34 : decode cX11_crew 34 = .ok (.ireturn, 1) := by decide +kernel
theorem dX11_crew_35 : decode cX11_crew 35 = .ok (.aload_n 0, 1) := by decide +kernel
theorem dX11_crew_36 : decode cX11_crew 36 = .ok (.getfield 90, 3) := by decide +kernel
theorem dX11_crew_39 : decode cX11_crew 39 = .ok (.aload_n 0, 1) := by decide +kernel
theorem dX11_crew_40 : decode cX11_crew 40 = .ok (.getfield 56, 3) := by decide +kernel
theorem dX11_crew_43 : decode cX11_crew 43 = .ok (.aload_n 0, 1) := by decide +kernel
theorem dX11_crew_44 : decode cX11_crew 44 = .ok (.getfield 60, 3) := by decide +kernel
theorem dX11_crew_47 : decode cX11_crew 47 = .ok (.iload_n 1, 1) := by decide +kernel
theorem dX11_crew_48 : decode cX11_crew 48 = .ok (.iload_n 2, 1) := by decide +kernel
theorem dX11_crew_49 : decode cX11_crew 49 = .ok (.aload_n 0, 1) := by decide +kernel
theorem dX11_crew_50 : decode cX11_crew 50 = .ok (.aload_n 0, 1) := by decide +kernel
theorem dX11_crew_51 : decode cX11_crew 51 = .ok (.getfield 40, 3) := by decide +kernel
theorem dX11_crew_54 : decode cX11_crew 54 = .ok (.aload_n 0, 1) := by decide +kernel
theorem dX11_crew_55 : decode cX11_crew 55 = .ok (.getfield 56, 3) := by decide +kernel
theorem dX11_crew_58 : decode cX11_crew 58 = .ok (.iconst 0, 1) := by decide +kernel
theorem dX11_crew_59 : decode cX11_crew 59 = .ok (.invokevirtual 272, 3) := by decide +kernel
theorem dX11_crew_62 : decode cX11_crew 62 = .ok (.invokevirtual 301, 3) := by decide +kernel
theorem dX11_crew_65 : decode cX11_crew 65 = .ok (.istore_n 3, 1) := by decide +kernel
theorem dX11_crew_66 : decode cX11_crew 66 = .ok (.iload_n 3, 1) := by decide +kernel
theorem dX11_crew_67 : decode cX11_crew 67 = .ok (.ifCond .ge 6, 3) := by decide +kernel
theorem dX11_crew_70 : decode cX11_crew 70 = .ok (.bipush (-2), 2) := by decide +kernel
theorem dX11_crew_72 : decode cX11_crew 72 = .ok (.ireturn, 1) := by decide +kernel
theorem dX11_crew_73 : decode cX11_crew 73 = .ok (.aload_n 0, 1) := by decide +kernel
theorem dX11_crew_74 : decode cX11_crew 74 = .ok (.getfield 19, 3) := by decide +kernel
theorem dX11_crew_77 : decode cX11_crew 77 = .ok (.invokevirtual 305, 3) := by decide +kernel
theorem dX11_crew_80 : decode cX11_crew 80 = .ok (.iconst 0, 1) := by decide +kernel
theorem dX11_crew_81 : decode cX11_crew 81 = .ok (.istore 4, 2) := by decide +kernel
theorem dX11_crew_83 : decode cX11_crew 83 = .ok (.iload 4, 2) := by decide +kernel
theorem dX11_crew_85 : decode cX11_crew 85 = .ok (.aload_n 0, 1) := by decide +kernel
theorem dX11_crew_86 : decode cX11_crew 86 = .ok (.getfield 33, 3) := by decide +kernel
theorem dX11_crew_89 : decode cX11_crew 89 = .ok (.getfield 134, 3) := by decide +kernel
theorem dX11_crew_92 : decode cX11_crew 92 = .ok (.if_icmp .ge 27, 3) := by decide +kernel
theorem dX11_crew_95 : decode cX11_crew 95 = .ok (.aload_n 0, 1) := by decide +kernel
theorem dX11_crew_96 : decode cX11_crew 96 = .ok (.getfield 19, 3) := by decide +kernel
theorem dX11_crew_99 : decode cX11_crew 99 = .ok (.aload_n 0, 1) := by decide +kernel
theorem dX11_crew_100 : decode cX11_crew 100 = .ok (.getfield 90, 3) := by decide +kernel
theorem dX11_crew_103 : decode cX11_crew 103 = .ok (.getfield 306, 3) := by decide +kernel
theorem dX11_crew_106 : decode cX11_crew 106 = .ok (.iload 4, 2) := by decide +kernel
theorem dX11_crew_108 : decode cX11_crew 108 = .ok (.iaload, 1) := by decide +kernel
theorem dX11_crew_109 : decode cX11_crew 109 = .ok (.i2l, 1) := by decide +kernel
theorem dX11_crew_110 : decode cX11_crew 110 = .ok (.invokevirtual 307, 3) := by decide +kernel
theorem dX11_crew_113 : decode cX11_crew 113 = .ok (.iinc 4 1, 3) := by decide +kernel
theorem dX11_crew_116 : decode cX11_crew 116 = .ok (.goto (-33), 3) := by decide +kernel
theorem dX11_crew_119 : decode cX11_crew 119 = .ok (.iload_n 3, 1) := by decide +kernel
theorem dX11_crew_120 : decode cX11_crew 120 = .ok (.ireturn, 1) := by decide +kernel
theorem dX11_post_0 : decode cX11_post 0 = .ok (.aload_n 0, 1) := by decide +kernel
theorem dX11_post_1 : decode cX11_post 1 = .ok (.getfield 33, 3) := by decide +kernel
theorem dX11_post_4 : decode cX11_post 4 = .ok (.iload_n 1, 1) := by decide +kernel
theorem dX11_post_5 : decode cX11_post 5 = .ok (.invokevirtual 177, 3) := by decide +kernel
theorem dX11_post_8 : decode cX11_post 8 = .ok (.ifCond .eq 13, 3) := by decide +kernel
theorem dX11_post_11 : decode cX11_post 11 = .ok (.iload_n 2, 1) := by decide +kernel
theorem dX11_post_12 : decode cX11_post 12 = .ok (.iconst 1, 1) := by decide +kernel
theorem dX11_post_13 : decode cX11_post 13 = .ok (.bipush 9, 2) := by decide +kernel
theorem dX11_post_15 : decode cX11_post 15 = .ok (.invokestatic 203, 3) := by decide +kernel
theorem dX11_post_18 : decode cX11_post 18 = .ok (.ifCond .ne 5, 3) := by decide +kernel
theorem dX11_post_21 : decode cX11_post 21 = .ok (.iconst (-1), 1) := by decide +kernel
theorem dX11_post_22 : decode cX11_post 22 = .ok (.ireturn, 1) := by decide +kernel
theorem dX11_post_23 : decode cX11_post 23 = .ok (.aload_n 0, 1) := by decide +kernel
theorem dX11_post_24 : decode cX11_post 24 = .ok (.getfield 56, 3) := by decide +kernel
theorem dX11_post_27 : decode cX11_post 27 = .ok (.getfield 189, 3) := by decide +kernel
theorem dX11_post_30 : decode cX11_post 30 = .ok (.iload_n 1, 1) := by decide +kernel
theorem dX11_post_31 : decode cX11_post 31 = .ok (.iaload, 1) := by decide +kernel
theorem dX11_post_32 : decode cX11_post 32 = .ok (.ifCond .ne 6, 3) := by decide +kernel
theorem dX11_post_35 : decode cX11_post 35 = .ok (.bipush (-2), 2) := by decide +kernel
theorem dX11_post_37 : decode cX11_post 37 = .ok (.ireturn, 1) := by decide +kernel
theorem dX11_post_38 : decode cX11_post 38 = .ok (.aload_n 0, 1) := by decide +kernel
theorem dX11_post_39 : decode cX11_post 39 = .ok (.aload_n 0, 1) := by decide +kernel
theorem dX11_post_40 : decode cX11_post 40 = .ok (.getfield 40, 3) := by decide +kernel
theorem dX11_post_43 : decode cX11_post 43 = .ok (.aload_n 0, 1) := by decide +kernel
theorem dX11_post_44 : decode cX11_post 44 = .ok (.getfield 56, 3) := by decide +kernel
theorem dX11_post_47 : decode cX11_post 47 = .ok (.iconst 0, 1) := by decide +kernel
theorem dX11_post_48 : decode cX11_post 48 = .ok (.invokevirtual 272, 3) := by decide +kernel
theorem dX11_post_51 : decode cX11_post 51 = .ok (.istore_n 3, 1) := by decide +kernel
theorem dX11_post_52 : decode cX11_post 52 = .ok (.iconst (-1), 1) := by decide +kernel
theorem dX11_post_53 : decode cX11_post 53 = .ok (.istore 4, 2) := by decide +kernel
theorem dX11_post_55 : decode cX11_post 55 = .ok (.iconst 0, 1) := by decide +kernel
theorem dX11_post_56 : decode cX11_post 56 = .ok (.istore 5, 2) := by decide +kernel
theorem dX11_post_58 : decode cX11_post 58 = .ok (.iconst 0, 1) := by decide +kernel
theorem dX11_post_59 : decode cX11_post 59 = .ok (.istore 6, 2) := by decide +kernel
theorem dX11_post_61 : decode cX11_post 61 = .ok (.iload 6, 2) := by decide +kernel
theorem dX11_post_63 : decode cX11_post 63 = .ok (.aload_n 0, 1) := by decide +kernel
theorem dX11_post_64 : decode cX11_post 64 = .ok (.getfield 26, 3) := by decide +kernel
theorem dX11_post_67 : decode cX11_post 67 = .ok (.getfield 131, 3) := by decide +kernel
theorem dX11_post_70 : decode cX11_post 70 = .ok (.if_icmp .ge 71, 3) := by decide +kernel
theorem dX11_post_73 : decode cX11_post 73 = .ok (.aload_n 0, 1) := by decide +kernel
theorem dX11_post_74 : decode cX11_post 74 = .ok (.getfield 60, 3) := by decide +kernel
theorem dX11_post_77 : decode cX11_post 77 = .ok (.aload_n 0, 1) := by decide +kernel
theorem dX11_post_78 : decode cX11_post 78 = .ok (.getfield 56, 3) := by decide +kernel
theorem dX11_post_81 : decode cX11_post 81 = .ok (.invokevirtual 282, 3) := by decide +kernel
theorem dX11_post_84 : decode cX11_post 84 = .ok (.aload_n 0, 1) := by decide +kernel
theorem dX11_post_85 : decode cX11_post 85 = .ok (.getfield 60, 3) := by decide +kernel
theorem dX11_post_88 : decode cX11_post 88 = .ok (.getfield 195, 3) := by decide +kernel
theorem dX11_post_91 : decode cX11_post 91 = .ok (.iload_n 1, 1) := by decide +kernel
theorem dX11_post_92 : decode cX11_post 92 = .ok (.iload 6, 2) := by decide +kernel
theorem dX11_post_94 : decode cX11_post 94 = .ok (.iastore, 1) := by decide +kernel
theorem dX11_post_95 : decode cX11_post 95 = .ok (.aload_n 0, 1) := by decide +kernel
theorem dX11_post_96 : decode cX11_post 96 = .ok (.getfield 60, 3) := by decide +kernel
theorem dX11_post_99 : decode cX11_post 99 = .ok (.iload_n 2, 1) := by decide +kernel
theorem dX11_post_100 : decode cX11_post 100 = .ok (.invokevirtual 309, 3) := by decide +kernel
theorem dX11_post_103 : decode cX11_post 103 = .ok (.aload_n 0, 1) := by decide +kernel
theorem dX11_post_104 : decode cX11_post 104 = .ok (.getfield 60, 3) := by decide +kernel
theorem dX11_post_107 : decode cX11_post 107 = .ok (.invokevirtual 312, 3) := by decide +kernel
theorem dX11_post_110 : decode cX11_post 110 = .ok (.iload_n 3, 1) := by decide +kernel
theorem dX11_post_111 : decode cX11_post 111 = .ok (.isub, 1) := by decide +kernel
theorem dX11_post_112 : decode cX11_post 112 = .ok (.istore 7, 2) := by decide +kernel
theorem dX11_post_114 : decode cX11_post 114 = .ok (.iload 4, 2) := by decide +kernel
theorem dX11_post_116 : decode cX11_post 116 = .ok (.iconst (-1), 1) := by decide +kernel
theorem dX11_post_117 : decode cX11_post 117 = .ok (.if_icmp .eq 10, 3) := by decide +kernel
theorem dX11_post_120 : decode cX11_post 120 = .ok (.iload 7, 2) := by decide +kernel
theorem dX11_post_122 : decode cX11_post 122 = .ok (.iload 5, 2) := by decide +kernel
theorem dX11_post_124 : decode cX11_post 124 = .ok (.if_icmp .le 11, 3) := by decide +kernel
theorem dX11_post_127 : decode cX11_post 127 = .ok (.iload 7, 2) := by decide +kernel
theorem dX11_post_129 : decode cX11_post 129 = .ok (.istore 5, 2) := by decide +kernel
theorem dX11_post_131 : decode cX11_post 131 = .ok (.iload 6, 2) := by decide +kernel
theorem dX11_post_133 : decode cX11_post 133 = .ok (.istore 4, 2) := by decide +kernel
theorem dX11_post_135 : decode cX11_post 135 = .ok (.iinc 6 1, 3) := by decide +kernel
theorem dX11_post_138 : decode cX11_post 138 = .ok (.goto (-77), 3) := by decide +kernel
theorem dX11_post_141 : decode cX11_post 141 = .ok (.aload_n 0, 1) := by decide +kernel
theorem dX11_post_142 : decode cX11_post 142 = .ok (.getfield 19, 3) := by decide +kernel
theorem dX11_post_145 : decode cX11_post 145 = .ok (.sipush 1000, 3) := by decide +kernel
theorem dX11_post_148 : decode cX11_post 148 = .ok (.iload 5, 2) := by decide +kernel
theorem dX11_post_150 : decode cX11_post 150 = .ok (.iadd, 1) := by decide +kernel
theorem dX11_post_151 : decode cX11_post 151 = .ok (.i2l, 1) := by decide +kernel
theorem dX11_post_152 : decode cX11_post 152 = .ok (.invokevirtual 279, 3) := by decide +kernel
theorem dX11_post_155 : decode cX11_post 155 = .ok (.iload 4, 2) := by decide +kernel
theorem dX11_post_157 : decode cX11_post 157 = .ok (.ireturn, 1) := by decide +kernel
theorem dX11_moats_0 : decode cX11_moats 0 = .ok (.iload_n 1, 1) := by decide +kernel
theorem dX11_moats_1 : decode cX11_moats 1 = .ok (.iconst 0, 1) := by decide +kernel
theorem dX11_moats_2 : decode cX11_moats 2 = .ok (.iconst 4, 1) := by decide +kernel
theorem dX11_moats_3 : decode cX11_moats 3 = .ok (.invokestatic 203, 3) := by decide +kernel
theorem dX11_moats_6 : decode cX11_moats 6 = .ok (.ifCond .ne 5, 3) := by decide +kernel
theorem dX11_moats_9 : decode cX11_moats 9 = .ok (.iconst (-1), 1) := by decide +kernel
theorem dX11_moats_10 : decode cX11_moats 10 = .ok (.ireturn, 1) := by decide +kernel
theorem dX11_moats_11 : decode cX11_moats 11 = .ok (.iload_n 1, 1) := by decide +kernel
theorem dX11_moats_12 : decode cX11_moats 12 = .ok (.aload_n 0, 1) := by decide +kernel
theorem dX11_moats_13 : decode cX11_moats 13 = .ok (.getfield 26, 3) := by decide +kernel
theorem dX11_moats_16 : decode cX11_moats 16 = .ok (.getfield 131, 3) := by decide +kernel
theorem dX11_moats_19 : decode cX11_moats 19 = .ok (.if_icmp .le 6, 3) := by decide +kernel
theorem dX11_moats_22 : decode cX11_moats 22 = .ok (.bipush (-2), 2) := by decide +kernel
theorem dX11_moats_24 : decode cX11_moats 24 = .ok (.ireturn, 1) := by decide +kernel
theorem dX11_moats_25 : decode cX11_moats 25 = .ok (.aload_n 0, 1) := by decide +kernel
theorem dX11_moats_26 : decode cX11_moats 26 = .ok (.getfield 99, 3) := by decide +kernel
theorem dX11_moats_29 : decode cX11_moats 29 = .ok (.aload_n 0, 1) := by decide +kernel
theorem dX11_moats_30 : decode cX11_moats 30 = .ok (.getfield 56, 3) := by decide +kernel
theorem dX11_moats_33 : decode cX11_moats 33 = .ok (.aload_n 0, 1) := by decide +kernel
theorem dX11_moats_34 : decode cX11_moats 34 = .ok (.getfield 40, 3) := by decide +kernel
theorem dX11_moats_37 : decode cX11_moats 37 = .ok (.aload_n 0, 1) := by decide +kernel
theorem dX11_moats_38 : decode cX11_moats 38 = .ok (.getfield 207, 3) := by decide +kernel
theorem dX11_moats_41 : decode cX11_moats 41 = .ok (.iload_n 1, 1) := by decide +kernel
theorem dX11_moats_42 : decode cX11_moats 42 = .ok (.invokevirtual 315, 3) := by decide +kernel
theorem dX11_moats_45 : decode cX11_moats 45 = .ok (.istore_n 2, 1) := by decide +kernel
theorem dX11_moats_46 : decode cX11_moats 46 = .ok (.aload_n 0, 1) := by decide +kernel
theorem dX11_moats_47 : decode cX11_moats 47 = .ok (.getfield 19, 3) := by decide +kernel
theorem dX11_moats_50 : decode cX11_moats 50 = .ok (.aload_n 0, 1) := by decide +kernel
theorem dX11_moats_51 : decode cX11_moats 51 = .ok (.getfield 99, 3) := by decide +kernel
theorem dX11_moats_54 : decode cX11_moats 54 = .ok (.getfield 318, 3) := by decide +kernel
theorem dX11_moats_57 : decode cX11_moats 57 = .ok (.i2l, 1) := by decide +kernel
theorem dX11_moats_58 : decode cX11_moats 58 = .ok (.invokevirtual 279, 3) := by decide +kernel
theorem dX11_moats_61 : decode cX11_moats 61 = .ok (.iload_n 2, 1) := by decide +kernel
theorem dX11_moats_62 : decode cX11_moats 62 = .ok (.ireturn, 1) := by decide +kernel
theorem dX11_spades_0 : decode cX11_spades 0 = .ok (.aload_n 0, 1) := by decide +kernel
theorem dX11_spades_1 : decode cX11_spades 1 = .ok (.getfield 60, 3) := by decide +kernel
theorem dX11_spades_4 : decode cX11_spades 4 = .ok (.aload_n 0, 1) := by decide +kernel
theorem dX11_spades_5 : decode cX11_spades 5 = .ok (.getfield 56, 3) := by decide +kernel
theorem dX11_spades_8 : decode cX11_spades 8 = .ok (.invokevirtual 282, 3) := by decide +kernel
theorem dX11_spades_11 : decode cX11_spades 11 = .ok (.aload_n 0, 1) := by decide +kernel
theorem dX11_spades_12 : decode cX11_spades 12 = .ok (.getfield 60, 3) := by decide +kernel
theorem dX11_spades_15 : decode cX11_spades 15 = .ok (.iconst 0, 1) := by decide +kernel
theorem dX11_spades_16 : decode cX11_spades 16 = .ok (.putfield 192, 3) := by decide +kernel
theorem dX11_spades_19 : decode cX11_spades 19 = .ok (.iconst 0, 1) := by decide +kernel
theorem dX11_spades_20 : decode cX11_spades 20 = .ok (.istore_n 1, 1) := by decide +kernel
theorem dX11_spades_21 : decode cX11_spades 21 = .ok (.iload_n 1, 1) := by decide +kernel
theorem dX11_spades_22 : decode cX11_spades 22 = .ok (.aload_n 0, 1) := by decide +kernel
theorem dX11_spades_23 : decode cX11_spades 23 = .ok (.getfield 47, 3) := by decide +kernel
theorem dX11_spades_26 : decode cX11_spades 26 = .ok (.if_icmp .ge 25, 3) := by decide +kernel
theorem dX11_spades_29 : decode cX11_spades 29 = .ok (.aload_n 0, 1) := by decide +kernel
theorem dX11_spades_30 : decode cX11_spades 30 = .ok (.getfield 60, 3) := by decide +kernel
theorem dX11_spades_33 : decode cX11_spades 33 = .ok (.dup, 1) := by decide +kernel
theorem dX11_spades_34 : decode cX11_spades 34 = .ok (.getfield 192, 3) := by decide +kernel
theorem dX11_spades_37 : decode cX11_spades 37 = .ok (.aload_n 0, 1) := by decide +kernel
theorem dX11_spades_38 : decode cX11_spades 38 = .ok (.invokevirtual 321, 3) := by decide +kernel
theorem dX11_spades_41 : decode cX11_spades 41 = .ok (.ior, 1) := by decide +kernel
theorem dX11_spades_42 : decode cX11_spades 42 = .ok (.putfield 192, 3) := by decide +kernel
theorem dX11_spades_45 : decode cX11_spades 45 = .ok (.iinc 1 1, 3) := by decide +kernel
theorem dX11_spades_48 : decode cX11_spades 48 = .ok (.goto (-27), 3) := by decide +kernel
theorem dX11_spades_51 : decode cX11_spades 51 = .ok (.aload_n 0, 1) := by decide +kernel
theorem dX11_spades_52 : decode cX11_spades 52 = .ok (.getfield 19, 3) := by decide +kernel
theorem dX11_spades_55 : decode cX11_spades 55 = .ok (.aload_n 0, 1) := by decide +kernel
theorem dX11_spades_56 : decode cX11_spades 56 = .ok (.getfield 60, 3) := by decide +kernel
theorem dX11_spades_59 : decode cX11_spades 59 = .ok (.getfield 192, 3) := by decide +kernel
theorem dX11_spades_62 : decode cX11_spades 62 = .ok (.i2l, 1) := by decide +kernel
theorem dX11_spades_63 : decode cX11_spades 63 = .ok (.invokevirtual 279, 3) := by decide +kernel
theorem dX11_spades_66 : decode cX11_spades 66 = .ok (.aload_n 0, 1) := by decide +kernel
theorem dX11_spades_67 : decode cX11_spades 67 = .ok (.getfield 60, 3) := by decide +kernel
theorem dX11_spades_70 : decode cX11_spades 70 = .ok (.invokevirtual 324, 3) := by decide +kernel
theorem dX11_spades_73 : decode cX11_spades 73 = .ok (.ireturn, 1) := by decide +kernel
theorem dX11_treats_0 : decode cX11_treats 0 = .ok (.iload_n 1, 1) := by decide +kernel
theorem dX11_treats_1 : decode cX11_treats 1 = .ok (.iconst 1, 1) := by decide +kernel
theorem dX11_treats_2 : decode cX11_treats 2 = .ok (.bipush 9, 2) := by decide +kernel
theorem dX11_treats_4 : decode cX11_treats 4 = .ok (.invokestatic 203, 3) := by decide +kernel
theorem dX11_treats_7 : decode cX11_treats 7 = .ok (.ifCond .ne 5, 3) := by decide +kernel
theorem dX11_treats_10 : decode cX11_treats 10 = .ok (.iconst (-1), 1) := by decide +kernel
theorem dX11_treats_11 : decode cX11_treats 11 = .ok (.ireturn, 1) := by decide +kernel
theorem dX11_treats_12 : decode cX11_treats 12 = .ok (.aload_n 0, 1) := by decide +kernel
theorem dX11_treats_13 : decode cX11_treats 13 = .ok (.getfield 33, 3) := by decide +kernel
theorem dX11_treats_16 : decode cX11_treats 16 = .ok (.invokevirtual 327, 3) := by decide +kernel
theorem dX11_treats_19 : decode cX11_treats 19 = .ok (.aload_n 0, 1) := by decide +kernel
theorem dX11_treats_20 : decode cX11_treats 20 = .ok (.getfield 56, 3) := by decide +kernel
theorem dX11_treats_23 : decode cX11_treats 23 = .ok (.invokevirtual 330, 3) := by decide +kernel
theorem dX11_treats_26 : decode cX11_treats 26 = .ok (.iconst (-1), 1) := by decide +kernel
theorem dX11_treats_27 : decode cX11_treats 27 = .ok (.ixor, 1) := by decide +kernel
theorem dX11_treats_28 : decode cX11_treats 28 = .ok (.iand, 1) := by decide +kernel
theorem dX11_treats_29 : decode cX11_treats 29 = .ok (.istore_n 2, 1) := by decide +kernel
theorem dX11_treats_30 : decode cX11_treats 30 = .ok (.iload_n 1, 1) := by decide +kernel
theorem dX11_treats_31 : decode cX11_treats 31 = .ok (.iconst 1, 1) := by decide +kernel
theorem dX11_treats_32 : decode cX11_treats 32 = .ok (.iadd, 1) := by decide +kernel
theorem dX11_treats_33 : decode cX11_treats 33 = .ok (.bipush 9, 2) := by decide +kernel
theorem dX11_treats_35 : decode cX11_treats 35 = .ok (.if_icmp .le 10, 3) := by decide +kernel
theorem dX11_treats_38 : decode cX11_treats 38 = .ok (.iload_n 2, 1) := by decide +kernel
theorem dX11_treats_39 : decode cX11_treats 39 = .ok (.ifCond .eq 6, 3) := by decide +kernel
theorem dX11_treats_42 : decode cX11_treats 42 = .ok (.bipush (-2), 2) := by decide +kernel
theorem dX11_treats_44 : decode cX11_treats 44 = .ok (.ireturn, 1) := by decide +kernel
theorem dX11_treats_45 : decode cX11_treats 45 = .ok (.aload_n 0, 1) := by decide +kernel
theorem dX11_treats_46 : decode cX11_treats 46 = .ok (.getfield 19, 3) := by decide +kernel
theorem dX11_treats_49 : decode cX11_treats 49 = .ok (.invokevirtual 305, 3) := by decide +kernel
theorem dX11_treats_52 : decode cX11_treats 52 = .ok (.iconst 0, 1) := by decide +kernel
theorem dX11_treats_53 : decode cX11_treats 53 = .ok (.istore_n 3, 1) := by decide +kernel
theorem dX11_treats_54 : decode cX11_treats 54 = .ok (.iconst 0, 1) := by decide +kernel
theorem dX11_treats_55 : decode cX11_treats 55 = .ok (.istore 4, 2) := by decide +kernel
theorem dX11_treats_57 : decode cX11_treats 57 = .ok (.iload 4, 2) := by decide +kernel
theorem dX11_treats_59 : decode cX11_treats 59 = .ok (.aload_n 0, 1) := by decide +kernel
theorem dX11_treats_60 : decode cX11_treats 60 = .ok (.getfield 33, 3) := by decide +kernel
theorem dX11_treats_63 : decode cX11_treats 63 = .ok (.getfield 134, 3) := by decide +kernel
theorem dX11_treats_66 : decode cX11_treats 66 = .ok (.if_icmp .ge 67, 3) := by decide +kernel
theorem dX11_treats_69 : decode cX11_treats 69 = .ok (.iload_n 2, 1) := by decide +kernel
theorem dX11_treats_70 : decode cX11_treats 70 = .ok (.iload 4, 2) := by decide +kernel
theorem dX11_treats_72 : decode cX11_treats 72 = .ok (.ishr, 1) := by decide +kernel
theorem dX11_treats_73 : decode cX11_treats 73 = .ok (.iconst 1, 1) := by decide +kernel
theorem dX11_treats_74 : decode cX11_treats 74 = .ok (.iand, 1) := by decide +kernel
theorem dX11_treats_75 : decode cX11_treats 75 = .ok (.ifCond .ne 7, 3) := by decide +kernel
theorem dX11_treats_78 : decode cX11_treats 78 = .ok (.iconst 0, 1) := by decide +kernel
theorem dX11_treats_79 : decode cX11_treats 79 = .ok (.goto 21, 3) := by decide +kernel
theorem dX11_treats_82 : decode cX11_treats 82 = .ok (.iconst 0, 1) := by decide +kernel
theorem dX11_treats_83 : decode cX11_treats 83 = .ok (.iload_n 1, 1) := by decide +kernel
theorem dX11_treats_84 : decode cX11_treats 84 = .ok (.iconst 1, 1) := by decide +kernel
theorem dX11_treats_85 : decode cX11_treats 85 = .ok (.iadd, 1) := by decide +kernel
theorem dX11_treats_86 : decode cX11_treats 86 = .ok (.aload_n 0, 1) := by decide +kernel
theorem dX11_treats_87 : decode cX11_treats 87 = .ok (.getfield 56, 3) := by decide +kernel
theorem dX11_treats_90 : decode cX11_treats 90 = .ok (.getfield 189, 3) := by decide +kernel
theorem dX11_treats_93 : decode cX11_treats 93 = .ok (.iload 4, 2) := by decide +kernel
theorem dX11_treats_95 : decode cX11_treats 95 = .ok (.iaload, 1) := by decide +kernel
theorem dX11_treats_96 : decode cX11_treats 96 = .ok (.isub, 1) := by decide +kernel
theorem dX11_treats_97 : decode cX11_treats 97 = .ok (.invokestatic 253, 3) := by decide +kernel
theorem dX11_treats_100 : decode cX11_treats 100 = .ok (.istore 5, 2) := by decide +kernel
theorem dX11_treats_102 : decode cX11_treats 102 = .ok (.iload 5, 2) := by decide +kernel
theorem dX11_treats_104 : decode cX11_treats 104 = .ok (.iconst 3, 1) := by decide +kernel
theorem dX11_treats_105 : decode cX11_treats 105 = .ok (.iadd, 1) := by decide +kernel
theorem dX11_treats_106 : decode cX11_treats 106 = .ok (.iconst 1, 1) := by decide +kernel
theorem dX11_treats_107 : decode cX11_treats 107 = .ok (.isub, 1) := by decide +kernel
theorem dX11_treats_108 : decode cX11_treats 108 = .ok (.iconst 3, 1) := by decide +kernel
theorem dX11_treats_109 : decode cX11_treats 109 = .ok (.idiv, 1) := by decide +kernel
theorem dX11_treats_110 : decode cX11_treats 110 = .ok (.istore 6, 2) := by decide +kernel
theorem dX11_treats_112 : decode cX11_treats 112 = .ok (.aload_n 0, 1) := by decide +kernel
theorem dX11_treats_113 : decode cX11_treats 113 = .ok (.getfield 19, 3) := by decide +kernel
theorem dX11_treats_116 : decode cX11_treats 116 = .ok (.iload 6, 2) := by decide +kernel
theorem dX11_treats_118 : decode cX11_treats 118 = .ok (.i2l, 1) := by decide +kernel
theorem dX11_treats_119 : decode cX11_treats 119 = .ok (.invokevirtual 307, 3) := by decide +kernel
theorem dX11_treats_122 : decode cX11_treats 122 = .ok (.iload_n 3, 1) := by decide +kernel
theorem dX11_treats_123 : decode cX11_treats 123 = .ok (.iload 6, 2) := by decide +kernel
theorem dX11_treats_125 : decode cX11_treats 125 = .ok (.iadd, 1) := by decide +kernel
theorem dX11_treats_126 : decode cX11_treats 126 = .ok (.istore_n 3, 1) := by decide +kernel
theorem dX11_treats_127 : decode cX11_treats 127 = .ok (.iinc 4 1, 3) := by decide +kernel
theorem dX11_treats_130 : decode cX11_treats 130 = .ok (.goto (-73), 3) := by decide +kernel
theorem dX11_treats_133 : decode cX11_treats 133 = .ok (.iload_n 3, 1) := by decide +kernel
theorem dX11_treats_134 : decode cX11_treats 134 = .ok (.ireturn, 1) := by decide +kernel
theorem dX11_work_0 : decode cX11_work 0 = .ok (.iload_n 1, 1) := by decide +kernel
theorem dX11_work_1 : decode cX11_work 1 = .ok (.iconst 0, 1) := by decide +kernel
theorem dX11_work_2 : decode cX11_work 2 = .ok (.bipush 30, 2) := by decide +kernel
theorem dX11_work_4 : decode cX11_work 4 = .ok (.invokestatic 203, 3) := by decide +kernel
theorem dX11_work_7 : decode cX11_work 7 = .ok (.ifCond .ne 5, 3) := by decide +kernel
theorem dX11_work_10 : decode cX11_work 10 = .ok (.iconst (-1), 1) := by decide +kernel
theorem dX11_work_11 : decode cX11_work 11 = .ok (.ireturn, 1) := by decide +kernel
theorem dX11_work_12 : decode cX11_work 12 = .ok (.aload_n 0, 1) := by decide +kernel
theorem dX11_work_13 : decode cX11_work 13 = .ok (.getfield 60, 3) := by decide +kernel
theorem dX11_work_16 : decode cX11_work 16 = .ok (.aload_n 0, 1) := by decide +kernel
theorem dX11_work_17 : decode cX11_work 17 = .ok (.getfield 56, 3) := by decide +kernel
theorem dX11_work_20 : decode cX11_work 20 = .ok (.invokevirtual 282, 3) := by decide +kernel
theorem dX11_work_23 : decode cX11_work 23 = .ok (.aload_n 0, 1) := by decide +kernel
theorem dX11_work_24 : decode cX11_work 24 = .ok (.getfield 60, 3) := by decide +kernel
theorem dX11_work_27 : decode cX11_work 27 = .ok (.iload_n 1, 1) := by decide +kernel
theorem dX11_work_28 : decode cX11_work 28 = .ok (.invokevirtual 309, 3) := by decide +kernel
theorem dX11_work_31 : decode cX11_work 31 = .ok (.aload_n 0, 1) := by decide +kernel
theorem dX11_work_32 : decode cX11_work 32 = .ok (.getfield 19, 3) := by decide +kernel
theorem dX11_work_35 : decode cX11_work 35 = .ok (.invokevirtual 305, 3) := by decide +kernel
theorem dX11_work_38 : decode cX11_work 38 = .ok (.iconst 0, 1) := by decide +kernel
theorem dX11_work_39 : decode cX11_work 39 = .ok (.istore_n 2, 1) := by decide +kernel
theorem dX11_work_40 : decode cX11_work 40 = .ok (.iload_n 2, 1) := by decide +kernel
theorem dX11_work_41 : decode cX11_work 41 = .ok (.aload_n 0, 1) := by decide +kernel
theorem dX11_work_42 : decode cX11_work 42 = .ok (.getfield 26, 3) := by decide +kernel
theorem dX11_work_45 : decode cX11_work 45 = .ok (.getfield 131, 3) := by decide +kernel
theorem dX11_work_48 : decode cX11_work 48 = .ok (.if_icmp .ge 36, 3) := by decide +kernel
theorem dX11_work_51 : decode cX11_work 51 = .ok (.aload_n 0, 1) := by decide +kernel
theorem dX11_work_52 : decode cX11_work 52 = .ok (.getfield 19, 3) := by decide +kernel
theorem dX11_work_55 : decode cX11_work 55 = .ok (.aload_n 0, 1) := by decide +kernel
theorem dX11_work_56 : decode cX11_work 56 = .ok (.getfield 60, 3) := by decide +kernel
theorem dX11_work_59 : decode cX11_work 59 = .ok (.getfield 156, 3) := by decide +kernel
theorem dX11_work_62 : decode cX11_work 62 = .ok (.iload_n 2, 1) := by decide +kernel
theorem dX11_work_63 : decode cX11_work 63 = .ok (.iaload, 1) := by decide +kernel
theorem dX11_work_64 : decode cX11_work 64 = .ok (.aload_n 0, 1) := by decide +kernel
theorem dX11_work_65 : decode cX11_work 65 = .ok (.getfield 56, 3) := by decide +kernel
theorem dX11_work_68 : decode cX11_work 68 = .ok (.getfield 156, 3) := by decide +kernel
theorem dX11_work_71 : decode cX11_work 71 = .ok (.iload_n 2, 1) := by decide +kernel
theorem dX11_work_72 : decode cX11_work 72 = .ok (.iaload, 1) := by decide +kernel
theorem dX11_work_73 : decode cX11_work 73 = .ok (.isub, 1) := by decide +kernel
theorem dX11_work_74 : decode cX11_work 74 = .ok (.i2l, 1) := by decide +kernel
theorem dX11_work_75 : decode cX11_work 75 = .ok (.invokevirtual 307, 3) := by decide +kernel
theorem dX11_work_78 : decode cX11_work 78 = .ok (.iinc 2 1, 3) := by decide +kernel
theorem dX11_work_81 : decode cX11_work 81 = .ok (.goto (-41), 3) := by decide +kernel
theorem dX11_work_84 : decode cX11_work 84 = .ok (.aload_n 0, 1) := by decide +kernel
theorem dX11_work_85 : decode cX11_work 85 = .ok (.getfield 60, 3) := by decide +kernel
theorem dX11_work_88 : decode cX11_work 88 = .ok (.invokevirtual 333, 3) := by decide +kernel
theorem dX11_work_91 : decode cX11_work 91 = .ok (.aload_n 0, 1) := by decide +kernel
theorem dX11_work_92 : decode cX11_work 92 = .ok (.getfield 56, 3) := by decide +kernel
theorem dX11_work_95 : decode cX11_work 95 = .ok (.invokevirtual 333, 3) := by decide +kernel
theorem dX11_work_98 : decode cX11_work 98 = .ok (.isub, 1) := by decide +kernel
theorem dX11_work_99 : decode cX11_work 99 = .ok (.ireturn, 1) := by decide +kernel
theorem dX11_law_0 : decode cX11_law 0 = .ok (.aload_n 0, 1) := by decide +kernel
theorem dX11_law_1 : decode cX11_law 1 = .ok (.getfield 44, 3) := by decide +kernel
theorem dX11_law_4 : decode cX11_law 4 = .ok (.aload_n 0, 1) := by decide +kernel
theorem dX11_law_5 : decode cX11_law 5 = .ok (.getfield 10, 3) := by decide +kernel
theorem dX11_law_8 : decode cX11_law 8 = .ok (.invokevirtual 142, 3) := by decide +kernel
theorem dX11_law_11 : decode cX11_law 11 = .ok (.istore_n 1, 1) := by decide +kernel
theorem dX11_law_12 : decode cX11_law 12 = .ok (.aload_n 0, 1) := by decide +kernel
theorem dX11_law_13 : decode cX11_law 13 = .ok (.getfield 10, 3) := by decide +kernel
theorem dX11_law_16 : decode cX11_law 16 = .ok (.iconst 0, 1) := by decide +kernel
theorem dX11_law_17 : decode cX11_law 17 = .ok (.putfield 114, 3) := by decide +kernel
theorem dX11_law_20 : decode cX11_law 20 = .ok (.iload_n 1, 1) := by decide +kernel
theorem dX11_law_21 : decode cX11_law 21 = .ok (.iconst (-1), 1) := by decide +kernel
theorem dX11_law_22 : decode cX11_law 22 = .ok (.if_icmp .eq 9, 3) := by decide +kernel
theorem dX11_law_25 : decode cX11_law 25 = .ok (.sipush (-10000), 3) := by decide +kernel
theorem dX11_law_28 : decode cX11_law 28 = .ok (.iload_n 1, 1) := by decide +kernel
theorem dX11_law_29 : decode cX11_law 29 = .ok (.isub, 1) := by decide +kernel
theorem dX11_law_30 : decode cX11_law 30 = .ok (.ireturn, 1) := by decide +kernel
theorem dX11_law_31 : decode cX11_law 31 = .ok (.aload_n 0, 1) := by decide +kernel
theorem dX11_law_32 : decode cX11_law 32 = .ok (.aload_n 0, 1) := by decide +kernel
theorem dX11_law_33 : decode cX11_law 33 = .ok (.getfield 44, 3) := by decide +kernel
theorem dX11_law_36 : decode cX11_law 36 = .ok (.bipush 20, 2) := by decide +kernel
theorem dX11_law_38 : decode cX11_law 38 = .ok (.invokevirtual 288, 3) := by decide +kernel
theorem dX11_law_41 : decode cX11_law 41 = .ok (.istore_n 2, 1) := by decide +kernel
theorem dX11_law_42 : decode cX11_law 42 = .ok (.aload_n 0, 1) := by decide +kernel
theorem dX11_law_43 : decode cX11_law 43 = .ok (.aload_n 0, 1) := by decide +kernel
theorem dX11_law_44 : decode cX11_law 44 = .ok (.getfield 40, 3) := by decide +kernel
theorem dX11_law_47 : decode cX11_law 47 = .ok (.bipush 20, 2) := by decide +kernel
theorem dX11_law_49 : decode cX11_law 49 = .ok (.invokevirtual 288, 3) := by decide +kernel
theorem dX11_law_52 : decode cX11_law 52 = .ok (.istore_n 3, 1) := by decide +kernel
theorem dX11_law_53 : decode cX11_law 53 = .ok (.aload_n 0, 1) := by decide +kernel
theorem dX11_law_54 : decode cX11_law 54 = .ok (.getfield 19, 3) := by decide +kernel
theorem dX11_law_57 : decode cX11_law 57 = .ok (.iload_n 2, 1) := by decide +kernel
theorem dX11_law_58 : decode cX11_law 58 = .ok (.i2l, 1) := by decide +kernel
theorem dX11_law_59 : decode cX11_law 59 = .ok (.iload_n 3, 1) := by decide +kernel
theorem dX11_law_60 : decode cX11_law 60 = .ok (.i2l, 1) := by decide +kernel
theorem dX11_law_61 : decode cX11_law 61 = .ok (.invokevirtual 264, 3) := by decide +kernel
theorem dX11_law_64 : decode cX11_law 64 = .ok (.iload_n 2, 1) := by decide +kernel
theorem dX11_law_65 : decode cX11_law 65 = .ok (.iload_n 3, 1) := by decide +kernel
theorem dX11_law_66 : decode cX11_law 66 = .ok (.isub, 1) := by decide +kernel
theorem dX11_law_67 : decode cX11_law 67 = .ok (.ireturn, 1) := by decide +kernel
theorem dX11_seen_0 : decode cX11_seen 0 = .ok (.aload_n 0, 1) := by decide +kernel
theorem dX11_seen_1 : decode cX11_seen 1 = .ok (.getfield 26, 3) := by decide +kernel
theorem dX11_seen_4 : decode cX11_seen 4 = .ok (.iload_n 1, 1) := by decide +kernel
theorem dX11_seen_5 : decode cX11_seen 5 = .ok (.invokevirtual 143, 3) := by decide +kernel
theorem dX11_seen_8 : decode cX11_seen 8 = .ok (.ifCond .eq 13, 3) := by decide +kernel
theorem dX11_seen_11 : decode cX11_seen 11 = .ok (.iload_n 2, 1) := by decide +kernel
theorem dX11_seen_12 : decode cX11_seen 12 = .ok (.iconst 0, 1) := by decide +kernel
theorem dX11_seen_13 : decode cX11_seen 13 = .ok (.bipush 99, 2) := by decide +kernel
theorem dX11_seen_15 : decode cX11_seen 15 = .ok (.invokestatic 203, 3) := by decide +kernel
theorem dX11_seen_18 : decode cX11_seen 18 = .ok (.ifCond .ne 5, 3) := by decide +kernel
theorem dX11_seen_21 : decode cX11_seen 21 = .ok (.iconst (-1), 1) := by decide +kernel
theorem dX11_seen_22 : decode cX11_seen 22 = .ok (.ireturn, 1) := by decide +kernel
theorem dX11_seen_23 : decode cX11_seen 23 = .ok (.aload_n 0, 1) := by decide +kernel
theorem dX11_seen_24 : decode cX11_seen 24 = .ok (.getfield 83, 3) := by decide +kernel
theorem dX11_seen_27 : decode cX11_seen 27 = .ok (.iload_n 1, 1) := by decide +kernel
theorem dX11_seen_28 : decode cX11_seen 28 = .ok (.iload_n 2, 1) := by decide +kernel
theorem dX11_seen_29 : decode cX11_seen 29 = .ok (.invokevirtual 336, 3) := by decide +kernel
theorem dX11_seen_32 : decode cX11_seen 32 = .ok (.ireturn, 1) := by decide +kernel
theorem dX11_forget_0 : decode cX11_forget 0 = .ok (.aload_n 0, 1) := by decide +kernel
theorem dX11_forget_1 : decode cX11_forget 1 = .ok (.getfield 83, 3) := by decide +kernel
theorem dX11_forget_4 : decode cX11_forget 4 = .ok (.getfield 339, 3) := by decide +kernel
theorem dX11_forget_7 : decode cX11_forget 7 = .ok (.invokestatic 210, 3) := by decide +kernel
theorem dX11_forget_10 : decode cX11_forget 10 = .ok (.istore_n 1, 1) := by decide +kernel
theorem dX11_forget_11 : decode cX11_forget 11 = .ok (.aload_n 0, 1) := by decide +kernel
theorem dX11_forget_12 : decode cX11_forget 12 = .ok (.getfield 83, 3) := by decide +kernel
theorem dX11_forget_15 : decode cX11_forget 15 = .ok (.invokevirtual 127, 3) := by decide +kernel
theorem dX11_forget_18 : decode cX11_forget 18 = .ok (.iload_n 1, 1) := by decide +kernel
theorem dX11_forget_19 : decode cX11_forget 19 = .ok (.ireturn, 1) := by decide +kernel
theorem dX11_ways_0 : decode cX11_ways 0 = .ok (.aload_n 0, 1) := by decide +kernel
theorem dX11_ways_1 : decode cX11_ways 1 = .ok (.getfield 83, 3) := by decide +kernel
theorem dX11_ways_4 : decode cX11_ways 4 = .ok (.invokevirtual 340, 3) := by decide +kernel
theorem dX11_ways_7 : decode cX11_ways 7 = .ok (.aload_n 0, 1) := by decide +kernel
theorem dX11_ways_8 : decode cX11_ways 8 = .ok (.getfield 83, 3) := by decide +kernel
theorem dX11_ways_11 : decode cX11_ways 11 = .ok (.aload_n 0, 1) := by decide +kernel
theorem dX11_ways_12 : decode cX11_ways 12 = .ok (.getfield 33, 3) := by decide +kernel
theorem dX11_ways_15 : decode cX11_ways 15 = .ok (.invokevirtual 327, 3) := by decide +kernel
theorem dX11_ways_18 : decode cX11_ways 18 = .ok (.invokevirtual 343, 3) := by decide +kernel
theorem dX11_ways_21 : decode cX11_ways 21 = .ok (.istore_n 1, 1) := by decide +kernel
theorem dX11_ways_22 : decode cX11_ways 22 = .ok (.aload_n 0, 1) := by decide +kernel
theorem dX11_ways_23 : decode cX11_ways 23 = .ok (.getfield 19, 3) := by decide +kernel
theorem dX11_ways_26 : decode cX11_ways 26 = .ok (.invokevirtual 305, 3) := by decide +kernel
theorem dX11_ways_29 : decode cX11_ways 29 = .ok (.iload_n 1, 1) := by decide +kernel
theorem dX11_ways_30 : decode cX11_ways 30 = .ok (.ifCond .le 14, 3) := by decide +kernel
theorem dX11_ways_33 : decode cX11_ways 33 = .ok (.aload_n 0, 1) := by decide +kernel
theorem dX11_ways_34 : decode cX11_ways 34 = .ok (.getfield 83, 3) := by decide +kernel
theorem dX11_ways_37 : decode cX11_ways 37 = .ok (.aload_n 0, 1) := by decide +kernel
theorem dX11_ways_38 : decode cX11_ways 38 = .ok (.getfield 19, 3) := by decide +kernel
theorem dX11_ways_41 : decode cX11_ways 41 = .ok (.invokevirtual 346, 3) := by decide +kernel
theorem dX11_ways_44 : decode cX11_ways 44 = .ok (.iload_n 1, 1) := by decide +kernel
theorem dX11_ways_45 : decode cX11_ways 45 = .ok (.ireturn, 1) := by decide +kernel
theorem dX11_was_0 : decode cX11_was 0 = .ok (.aload_n 0, 1) := by decide +kernel
theorem dX11_was_1 : decode cX11_was 1 = .ok (.getfield 33, 3) := by decide +kernel
theorem dX11_was_4 : decode cX11_was 4 = .ok (.iload_n 1, 1) := by decide +kernel
theorem dX11_was_5 : decode cX11_was 5 = .ok (.invokevirtual 177, 3) := by decide +kernel
theorem dX11_was_8 : decode cX11_was 8 = .ok (.ifCond .ne 5, 3) := by decide +kernel
theorem dX11_was_11 : decode cX11_was 11 = .ok (.iconst (-1), 1) := by decide +kernel
theorem dX11_was_12 : decode cX11_was 12 = .ok (.ireturn, 1) := by decide +kernel
theorem dX11_was_13 : decode cX11_was 13 = .ok (.aload_n 0, 1) := by decide +kernel
theorem dX11_was_14 : decode cX11_was 14 = .ok (.getfield 83, 3) := by decide +kernel
theorem dX11_was_17 : decode cX11_was 17 = .ok (.invokevirtual 340, 3) := by decide +kernel
theorem dX11_was_20 : decode cX11_was 20 = .ok (.aload_n 0, 1) := by decide +kernel
theorem dX11_was_21 : decode cX11_was 21 = .ok (.getfield 33, 3) := by decide +kernel
theorem dX11_was_24 : decode cX11_was 24 = .ok (.invokevirtual 327, 3) := by decide +kernel
theorem dX11_was_27 : decode cX11_was 27 = .ok (.iconst 1, 1) := by decide +kernel
theorem dX11_was_28 : decode cX11_was 28 = .ok (.iload_n 1, 1) := by decide +kernel
theorem dX11_was_29 : decode cX11_was 29 = .ok (.ishl, 1) := by decide +kernel
theorem dX11_was_30 : decode cX11_was 30 = .ok (.iconst (-1), 1) := by decide +kernel
theorem dX11_was_31 : decode cX11_was 31 = .ok (.ixor, 1) := by decide +kernel
theorem dX11_was_32 : decode cX11_was 32 = .ok (.iand, 1) := by decide +kernel
theorem dX11_was_33 : decode cX11_was 33 = .ok (.istore_n 2, 1) := by decide +kernel
theorem dX11_was_34 : decode cX11_was 34 = .ok (.aload_n 0, 1) := by decide +kernel
theorem dX11_was_35 : decode cX11_was 35 = .ok (.getfield 83, 3) := by decide +kernel
theorem dX11_was_38 : decode cX11_was 38 = .ok (.iload_n 2, 1) := by decide +kernel
theorem dX11_was_39 : decode cX11_was 39 = .ok (.invokevirtual 343, 3) := by decide +kernel
theorem dX11_was_42 : decode cX11_was 42 = .ok (.ifCond .le 7, 3) := by decide +kernel
theorem dX11_was_45 : decode cX11_was 45 = .ok (.iconst 1, 1) := by decide +kernel
theorem dX11_was_46 : decode cX11_was 46 = .ok (.goto 4, 3) := by decide +kernel
theorem dX11_was_49 : decode cX11_was 49 = .ok (.iconst 0, 1) := by decide +kernel
theorem dX11_was_50 : decode cX11_was 50 = .ok (.istore_n 3, 1) := by decide +kernel
theorem dX11_was_51 : decode cX11_was 51 = .ok (.aload_n 0, 1) := by decide +kernel
theorem dX11_was_52 : decode cX11_was 52 = .ok (.getfield 19, 3) := by decide +kernel
theorem dX11_was_55 : decode cX11_was 55 = .ok (.iload_n 3, 1) := by decide +kernel
theorem dX11_was_56 : decode cX11_was 56 = .ok (.i2l, 1) := by decide +kernel
theorem dX11_was_57 : decode cX11_was 57 = .ok (.invokevirtual 279, 3) := by decide +kernel
theorem dX11_was_60 : decode cX11_was 60 = .ok (.aload_n 0, 1) := by decide +kernel
theorem dX11_was_61 : decode cX11_was 61 = .ok (.getfield 83, 3) := by decide +kernel
theorem dX11_was_64 : decode cX11_was 64 = .ok (.iload_n 1, 1) := by decide +kernel
theorem dX11_was_65 : decode cX11_was 65 = .ok (.iload_n 2, 1) := by decide +kernel
theorem dX11_was_66 : decode cX11_was 66 = .ok (.invokevirtual 350, 3) := by decide +kernel
theorem dX11_was_69 : decode cX11_was 69 = .ok (.ireturn, 1) := by decide +kernel
theorem dX11_rain_0 : decode cX11_rain 0 = .ok (.iload_n 1, 1) := by decide +kernel
theorem dX11_rain_1 : decode cX11_rain 1 = .ok (.iconst 1, 1) := by decide +kernel
theorem dX11_rain_2 : decode cX11_rain 2 = .ok (.bipush 12, 2) := by decide +kernel
theorem dX11_rain_4 : decode cX11_rain 4 = .ok (.invokestatic 203, 3) := by decide +kernel
theorem dX11_rain_7 : decode cX11_rain 7 = .ok (.ifCond .eq 23, 3) := by decide +kernel
theorem dX11_rain_10 : decode cX11_rain 10 = .ok (.iload_n 2, 1) := by decide +kernel
theorem dX11_rain_11 : decode cX11_rain 11 = .ok (.iconst 1, 1) := by decide +kernel
theorem dX11_rain_12 : decode cX11_rain 12 = .ok (.bipush 12, 2) := by decide +kernel
theorem dX11_rain_14 : decode cX11_rain 14 = .ok (.invokestatic 203, 3) := by decide +kernel
theorem dX11_rain_17 : decode cX11_rain 17 = .ok (.ifCond .eq 13, 3) := by decide +kernel
theorem dX11_rain_20 : decode cX11_rain 20 = .ok (.iload_n 3, 1) := by decide +kernel
theorem dX11_rain_21 : decode cX11_rain 21 = .ok (.iconst 0, 1) := by decide +kernel
theorem dX11_rain_22 : decode cX11_rain 22 = .ok (.bipush 10, 2) := by decide +kernel
theorem dX11_rain_24 : decode cX11_rain 24 = .ok (.invokestatic 203, 3) := by decide +kernel
theorem dX11_rain_27 : decode cX11_rain 27 = .ok (.ifCond .ne 5, 3) := by decide +kernel
theorem dX11_rain_30 : decode cX11_rain 30 = .ok (.iconst (-1), 1) := by decide +kernel
theorem dX11_rain_31 : decode cX11_rain 31 = .ok (.ireturn, 1) := by decide +kernel
theorem dX11_rain_32 : decode cX11_rain 32 = .ok (.aload_n 0, 1) := by decide +kernel
theorem dX11_rain_33 : decode cX11_rain 33 = .ok (.getfield 106, 3) := by decide +kernel
theorem dX11_rain_36 : decode cX11_rain 36 = .ok (.iload_n 1, 1) := by decide +kernel
theorem dX11_rain_37 : decode cX11_rain 37 = .ok (.iload_n 2, 1) := by decide +kernel
theorem dX11_rain_38 : decode cX11_rain 38 = .ok (.iload_n 3, 1) := by decide +kernel
theorem dX11_rain_39 : decode cX11_rain 39 = .ok (.invokevirtual 353, 3) := by decide +kernel
theorem dX11_rain_42 : decode cX11_rain 42 = .ok (.lstore 4, 2) := by decide +kernel
theorem dX11_rain_44 : decode cX11_rain 44 = .ok (.lconst 1, 1) := by decide +kernel
theorem dX11_rain_45 : decode cX11_rain 45 = .ok (.lstore 6, 2) := by decide +kernel
theorem dX11_rain_47 : decode cX11_rain 47 = .ok (.iconst 0, 1) := by decide +kernel
theorem dX11_rain_48 : decode cX11_rain 48 = .ok (.istore 8, 2) := by decide +kernel
theorem dX11_rain_50 : decode cX11_rain 50 = .ok (.iload 8, 2) := by decide +kernel
theorem dX11_rain_52 : decode cX11_rain 52 = .ok (.iload_n 1, 1) := by decide +kernel
theorem dX11_rain_53 : decode cX11_rain 53 = .ok (.if_icmp .ge 17, 3) := by decide +kernel
theorem dX11_rain_56 : decode cX11_rain 56 = .ok (.lload 6, 2) := by decide +kernel
theorem dX11_rain_58 : decode cX11_rain 58 = .ok (.ldc2_w 357, 3) := by decide +kernel
theorem dX11_rain_61 : decode cX11_rain 61 = .ok (.lmul, 1) := by decide +kernel
theorem dX11_rain_62 : decode cX11_rain 62 = .ok (.lstore 6, 2) := by decide +kernel
theorem dX11_rain_64 : decode cX11_rain 64 = .ok (.iinc 8 1, 3) := by decide +kernel
theorem dX11_rain_67 : decode cX11_rain 67 = .ok (.goto (-17), 3) := by decide +kernel
theorem dX11_rain_70 : decode cX11_rain 70 = .ok (.lload 6, 2) := by decide +kernel
theorem dX11_rain_72 : decode cX11_rain 72 = .ok (.lload 4, 2) := by decide +kernel
theorem dX11_rain_74 : decode cX11_rain 74 = .ok (.invokestatic 359, 3) := by decide +kernel
theorem dX11_rain_77 : decode cX11_rain 77 = .ok (.lstore 8, 2) := by decide +kernel
theorem dX11_rain_79 : decode cX11_rain 79 = .ok (.lload 8, 2) := by decide +kernel
theorem dX11_rain_81 : decode cX11_rain 81 = .ok (.lconst 0, 1) := by decide +kernel
theorem dX11_rain_82 : decode cX11_rain 82 = .ok (.lcmp, 1) := by decide +kernel
theorem dX11_rain_83 : decode cX11_rain 83 = .ok (.ifCond .le 17, 3) := by decide +kernel
theorem dX11_rain_86 : decode cX11_rain 86 = .ok (.lload 4, 2) := by decide +kernel
theorem dX11_rain_88 : decode cX11_rain 88 = .ok (.lload 8, 2) := by decide +kernel
theorem dX11_rain_90 : decode cX11_rain 90 = .ok (.ldiv, 1) := by decide +kernel
theorem dX11_rain_91 : decode cX11_rain 91 = .ok (.lstore 4, 2) := by decide +kernel
theorem dX11_rain_93 : decode cX11_rain 93 = .ok (.lload 6, 2) := by decide +kernel
theorem dX11_rain_95 : decode cX11_rain 95 = .ok (.lload 8, 2) := by decide +kernel
theorem dX11_rain_97 : decode cX11_rain 97 = .ok (.ldiv, 1) := by decide +kernel
theorem dX11_rain_98 : decode cX11_rain 98 = .ok (.lstore 6, 2) := by decide +kernel
theorem dX11_rain_100 : decode cX11_rain 100 = .ok (.aload_n 0, 1) := by decide +kernel
theorem dX11_rain_101 : decode cX11_rain 101 = .ok (.getfield 19, 3) := by decide +kernel
theorem dX11_rain_104 : decode cX11_rain 104 = .ok (.lload 4, 2) := by decide +kernel
theorem dX11_rain_106 : decode cX11_rain 106 = .ok (.lload 6, 2) := by decide +kernel
theorem dX11_rain_108 : decode cX11_rain 108 = .ok (.invokevirtual 264, 3) := by decide +kernel
theorem dX11_rain_111 : decode cX11_rain 111 = .ok (.iconst 0, 1) := by decide +kernel
theorem dX11_rain_112 : decode cX11_rain 112 = .ok (.ireturn, 1) := by decide +kernel
theorem dX11_rests_0 : decode cX11_rests 0 = .ok (.iload_n 1, 1) := by decide +kernel
theorem dX11_rests_1 : decode cX11_rests 1 = .ok (.iconst 1, 1) := by decide +kernel
theorem dX11_rests_2 : decode cX11_rests 2 = .ok (.bipush 99, 2) := by decide +kernel
theorem dX11_rests_4 : decode cX11_rests 4 = .ok (.invokestatic 203, 3) := by decide +kernel
theorem dX11_rests_7 : decode cX11_rests 7 = .ok (.ifCond .eq 13, 3) := by decide +kernel
theorem dX11_rests_10 : decode cX11_rests 10 = .ok (.iload_n 2, 1) := by decide +kernel
theorem dX11_rests_11 : decode cX11_rests 11 = .ok (.iconst 0, 1) := by decide +kernel
theorem dX11_rests_12 : decode cX11_rests 12 = .ok (.bipush 9, 2) := by decide +kernel
theorem dX11_rests_14 : decode cX11_rests 14 = .ok (.invokestatic 203, 3) := by decide +kernel
theorem dX11_rests_17 : decode cX11_rests 17 = .ok (.ifCond .ne 5, 3) := by decide +kernel
theorem dX11_rests_20 : decode cX11_rests 20 = .ok (.iconst (-1), 1) := by decide +kernel
theorem dX11_rests_21 : decode cX11_rests 21 = .ok (.ireturn, 1) := by decide +kernel
theorem dX11_rests_22 : decode cX11_rests 22 = .ok (.aload_n 0, 1) := by decide +kernel
theorem dX11_rests_23 : decode cX11_rests 23 = .ok (.getfield 106, 3) := by decide +kernel
theorem dX11_rests_26 : decode cX11_rests 26 = .ok (.iload_n 1, 1) := by decide +kernel
theorem dX11_rests_27 : decode cX11_rests 27 = .ok (.iload_n 2, 1) := by decide +kernel
theorem dX11_rests_28 : decode cX11_rests 28 = .ok (.invokevirtual 363, 3) := by decide +kernel
theorem dX11_rests_31 : decode cX11_rests 31 = .ok (.aload_n 0, 1) := by decide +kernel
theorem dX11_rests_32 : decode cX11_rests 32 = .ok (.getfield 19, 3) := by decide +kernel
theorem dX11_rests_35 : decode cX11_rests 35 = .ok (.invokevirtual 305, 3) := by decide +kernel
theorem dX11_rests_38 : decode cX11_rests 38 = .ok (.iconst 0, 1) := by decide +kernel
theorem dX11_rests_39 : decode cX11_rests 39 = .ok (.istore_n 3, 1) := by decide +kernel
theorem dX11_rests_40 : decode cX11_rests 40 = .ok (.iconst 0, 1) := by decide +kernel
theorem dX11_rests_41 : decode cX11_rests 41 = .ok (.istore 4, 2) := by decide +kernel
theorem dX11_rests_43 : decode cX11_rests 43 = .ok (.iload 4, 2) := by decide +kernel
theorem dX11_rests_45 : decode cX11_rests 45 = .ok (.bipush 9, 2) := by decide +kernel
theorem dX11_rests_47 : decode cX11_rests 47 = .ok (.if_icmp .gt 61, 3) := by decide +kernel
theorem dX11_rests_50 : decode cX11_rests 50 = .ok (.iconst 0, 1) := by decide +kernel
theorem dX11_rests_51 : decode cX11_rests 51 = .ok (.istore 5, 2) := by decide +kernel
theorem dX11_rests_53 : decode cX11_rests 53 = .ok (.iload 5, 2) := by decide +kernel
theorem dX11_rests_55 : decode cX11_rests 55 = .ok (.bipush 9, 2) := by decide +kernel
theorem dX11_rests_57 : decode cX11_rests 57 = .ok (.if_icmp .gt 45, 3) := by decide +kernel
theorem dX11_rests_60 : decode cX11_rests 60 = .ok (.aload_n 0, 1) := by decide +kernel
theorem dX11_rests_61 : decode cX11_rests 61 = .ok (.getfield 106, 3) := by decide +kernel
theorem dX11_rests_64 : decode cX11_rests 64 = .ok (.iload 4, 2) := by decide +kernel
theorem dX11_rests_66 : decode cX11_rests 66 = .ok (.iload 5, 2) := by decide +kernel
theorem dX11_rests_68 : decode cX11_rests 68 = .ok (.iload_n 1, 1) := by decide +kernel
theorem dX11_rests_69 : decode cX11_rests 69 = .ok (.iload_n 2, 1) := by decide +kernel
theorem dX11_rests_70 : decode cX11_rests 70 = .ok (.invokevirtual 367, 3) := by decide +kernel
theorem dX11_rests_73 : decode cX11_rests 73 = .ok (.ifCond .eq 23, 3) := by decide +kernel
theorem dX11_rests_76 : decode cX11_rests 76 = .ok (.iload_n 3, 1) := by decide +kernel
theorem dX11_rests_77 : decode cX11_rests 77 = .ok (.ifCond .ne 16, 3) := by decide +kernel
theorem dX11_rests_80 : decode cX11_rests 80 = .ok (.aload_n 0, 1) := by decide +kernel
theorem dX11_rests_81 : decode cX11_rests 81 = .ok (.getfield 19, 3) := by decide +kernel
theorem dX11_rests_84 : decode cX11_rests 84 = .ok (.iload 4, 2) := by decide +kernel
theorem dX11_rests_86 : decode cX11_rests 86 = .ok (.i2l, 1) := by decide +kernel
theorem dX11_rests_87 : decode cX11_rests 87 = .ok (.iload 5, 2) := by decide +kernel
theorem dX11_rests_89 : decode cX11_rests 89 = .ok (.i2l, 1) := by decide +kernel
theorem dX11_rests_90 : decode cX11_rests 90 = .ok (.invokevirtual 264, 3) := by decide +kernel
theorem dX11_rests_93 : decode cX11_rests 93 = .ok (.iinc 3 1, 3) := by decide +kernel
theorem dX11_rests_96 : decode cX11_rests 96 = .ok (.iinc 5 1, 3) := by decide +kernel
theorem dX11_rests_99 : decode cX11_rests 99 = .ok (.goto (-46), 3) := by decide +kernel
theorem dX11_rests_102 : decode cX11_rests 102 = .ok (.iinc 4 1, 3) := by decide +kernel
theorem dX11_rests_105 : decode cX11_rests 105 = .ok (.goto (-62), 3) := by decide +kernel
theorem dX11_rests_108 : decode cX11_rests 108 = .ok (.iload_n 3, 1) := by decide +kernel
theorem dX11_rests_109 : decode cX11_rests 109 = .ok (.ireturn, 1) := by decide +kernel
theorem dX11_summers_0 : decode cX11_summers 0 = .ok (.iload_n 2, 1) := by decide +kernel
theorem dX11_summers_1 : decode cX11_summers 1 = .ok (.iconst 1, 1) := by decide +kernel
theorem dX11_summers_2 : decode cX11_summers 2 = .ok (.bipush 60, 2) := by decide +kernel
theorem dX11_summers_4 : decode cX11_summers 4 = .ok (.invokestatic 203, 3) := by decide +kernel
theorem dX11_summers_7 : decode cX11_summers 7 = .ok (.ifCond .ne 5, 3) := by decide +kernel
theorem dX11_summers_10 : decode cX11_summers 10 = .ok (.iconst (-1), 1) := by decide +kernel
theorem dX11_summers_11 : decode cX11_summers 11 = .ok (.ireturn, 1) := by decide +kernel
theorem dX11_summers_12 : decode cX11_summers 12 = .ok (.aload_n 0, 1) := by decide +kernel
theorem dX11_summers_13 : decode cX11_summers 13 = .ok (.getfield 60, 3) := by decide +kernel
theorem dX11_summers_16 : decode cX11_summers 16 = .ok (.aload_n 0, 1) := by decide +kernel
theorem dX11_summers_17 : decode cX11_summers 17 = .ok (.getfield 56, 3) := by decide +kernel
theorem dX11_summers_20 : decode cX11_summers 20 = .ok (.invokevirtual 282, 3) := by decide +kernel
theorem dX11_summers_23 : decode cX11_summers 23 = .ok (.aload_n 0, 1) := by decide +kernel
theorem dX11_summers_24 : decode cX11_summers 24 = .ok (.getfield 106, 3) := by decide +kernel
theorem dX11_summers_27 : decode cX11_summers 27 = .ok (.iload_n 1, 1) := by decide +kernel
theorem dX11_summers_28 : decode cX11_summers 28 = .ok (.putfield 371, 3) := by decide +kernel
theorem dX11_summers_31 : decode cX11_summers 31 = .ok (.iconst 0, 1) := by decide +kernel
theorem dX11_summers_32 : decode cX11_summers 32 = .ok (.istore_n 3, 1) := by decide +kernel
theorem dX11_summers_33 : decode cX11_summers 33 = .ok (.iconst 0, 1) := by decide +kernel
theorem dX11_summers_34 : decode cX11_summers 34 = .ok (.istore 4, 2) := by decide +kernel
theorem dX11_summers_36 : decode cX11_summers 36 = .ok (.iload 4, 2) := by decide +kernel
theorem dX11_summers_38 : decode cX11_summers 38 = .ok (.iload_n 2, 1) := by decide +kernel
theorem dX11_summers_39 : decode cX11_summers 39 = .ok (.if_icmp .ge 74, 3) := by decide +kernel
theorem dX11_summers_42 : decode cX11_summers 42 = .ok (.aload_n 0, 1) := by decide +kernel
theorem dX11_summers_43 : decode cX11_summers 43 = .ok (.getfield 106, 3) := by decide +kernel
theorem dX11_summers_46 : decode cX11_summers 46 = .ok (.iconst 4, 1) := by decide +kernel
theorem dX11_summers_47 : decode cX11_summers 47 = .ok (.invokevirtual 374, 3) := by decide +kernel
theorem dX11_summers_50 : decode cX11_summers 50 = .ok (.istore 5, 2) := by decide +kernel
theorem dX11_summers_52 : decode cX11_summers 52 = .ok (.iload 5, 2) := by decide +kernel
theorem dX11_summers_54 : decode cX11_summers 54 = .ok (.iconst 2, 1) := by decide +kernel
theorem dX11_summers_55 : decode cX11_summers 55 = .ok (.if_icmp .ge 13, 3) := by decide +kernel
theorem dX11_summers_58 : decode cX11_summers 58 = .ok (.aload_n 0, 1) := by decide +kernel
theorem dX11_summers_59 : decode cX11_summers 59 = .ok (.getfield 60, 3) := by decide +kernel
theorem dX11_summers_62 : decode cX11_summers 62 = .ok (.invokevirtual 295, 3) := by decide +kernel
theorem dX11_summers_65 : decode cX11_summers 65 = .ok (.goto 42, 3) := by decide +kernel
theorem dX11_summers_68 : decode cX11_summers 68 = .ok (.iload 5, 2) := by decide +kernel
theorem dX11_summers_70 : decode cX11_summers 70 = .ok (.iconst 2, 1) := by decide +kernel
theorem dX11_summers_71 : decode cX11_summers 71 = .ok (.if_icmp .ne 10, 3) := by decide +kernel
theorem dX11_summers_74 : decode cX11_summers 74 = .ok (.aload_n 0, 1) := by decide +kernel
theorem dX11_summers_75 : decode cX11_summers 75 = .ok (.invokevirtual 377, 3) := by decide +kernel
theorem dX11_summers_78 : decode cX11_summers 78 = .ok (.goto 29, 3) := by decide +kernel
theorem dX11_summers_81 : decode cX11_summers 81 = .ok (.aload_n 0, 1) := by decide +kernel
theorem dX11_summers_82 : decode cX11_summers 82 = .ok (.getfield 60, 3) := by decide +kernel
theorem dX11_summers_85 : decode cX11_summers 85 = .ok (.aload_n 0, 1) := by decide +kernel
theorem dX11_summers_86 : decode cX11_summers 86 = .ok (.aload_n 0, 1) := by decide +kernel
theorem dX11_summers_87 : decode cX11_summers 87 = .ok (.getfield 40, 3) := by decide +kernel
theorem dX11_summers_90 : decode cX11_summers 90 = .ok (.aload_n 0, 1) := by decide +kernel
theorem dX11_summers_91 : decode cX11_summers 91 = .ok (.getfield 60, 3) := by decide +kernel
theorem dX11_summers_94 : decode cX11_summers 94 = .ok (.iconst 0, 1) := by decide +kernel
theorem dX11_summers_95 : decode cX11_summers 95 = .ok (.invokevirtual 272, 3) := by decide +kernel
theorem dX11_summers_98 : decode cX11_summers 98 = .ok (.invokevirtual 285, 3) := by decide +kernel
theorem dX11_summers_101 : decode cX11_summers 101 = .ok (.ifCond .eq 6, 3) := by decide +kernel
theorem dX11_summers_104 : decode cX11_summers 104 = .ok (.iinc 3 1, 3) := by decide +kernel
theorem dX11_summers_107 : decode cX11_summers 107 = .ok (.iinc 4 1, 3) := by decide +kernel
theorem dX11_summers_110 : decode cX11_summers 110 = .ok (.goto (-74), 3) := by decide +kernel
theorem dX11_summers_113 : decode cX11_summers 113 = .ok (.aload_n 0, 1) := by decide +kernel
theorem dX11_summers_114 : decode cX11_summers 114 = .ok (.getfield 19, 3) := by decide +kernel
theorem dX11_summers_117 : decode cX11_summers 117 = .ok (.aload_n 0, 1) := by decide +kernel
theorem dX11_summers_118 : decode cX11_summers 118 = .ok (.getfield 60, 3) := by decide +kernel
theorem dX11_summers_121 : decode cX11_summers 121 = .ok (.invokevirtual 261, 3) := by decide +kernel
theorem dX11_summers_124 : decode cX11_summers 124 = .ok (.invokestatic 210, 3) := by decide +kernel
theorem dX11_summers_127 : decode cX11_summers 127 = .ok (.i2l, 1) := by decide +kernel
theorem dX11_summers_128 : decode cX11_summers 128 = .ok (.aload_n 0, 1) := by decide +kernel
theorem dX11_summers_129 : decode cX11_summers 129 = .ok (.getfield 60, 3) := by decide +kernel
theorem dX11_summers_132 : decode cX11_summers 132 = .ok (.invokevirtual 330, 3) := by decide +kernel
theorem dX11_summers_135 : decode cX11_summers 135 = .ok (.invokestatic 210, 3) := by decide +kernel
theorem dX11_summers_138 : decode cX11_summers 138 = .ok (.i2l, 1) := by decide +kernel
theorem dX11_summers_139 : decode cX11_summers 139 = .ok (.invokevirtual 264, 3) := by decide +kernel
theorem dX11_summers_142 : decode cX11_summers 142 = .ok (.iload_n 3, 1) := by decide +kernel
theorem dX11_summers_143 : decode cX11_summers 143 = .ok (.ireturn, 1) := by decide +kernel
theorem dX11_keep_0 : decode cX11_keep 0 = .ok (.iload_n 1, 1) := by decide +kernel
theorem dX11_keep_1 : decode cX11_keep 1 = .ok (.iconst 0, 1) := by decide +kernel
theorem dX11_keep_2 : decode cX11_keep 2 = .ok (.iconst 2, 1) := by decide +kernel
theorem dX11_keep_3 : decode cX11_keep 3 = .ok (.invokestatic 203, 3) := by decide +kernel
theorem dX11_keep_6 : decode cX11_keep 6 = .ok (.ifCond .ne 5, 3) := by decide +kernel
theorem dX11_keep_9 : decode cX11_keep 9 = .ok (.iconst 0, 1) := by decide +kernel
theorem dX11_keep_10 : decode cX11_keep 10 = .ok (.ireturn, 1) := by decide +kernel
theorem dX11_keep_11 : decode cX11_keep 11 = .ok (.aload_n 0, 1) := by decide +kernel
theorem dX11_keep_12 : decode cX11_keep 12 = .ok (.getfield 70, 3) := by decide +kernel
theorem dX11_keep_15 : decode cX11_keep 15 = .ok (.iload_n 1, 1) := by decide +kernel
theorem dX11_keep_16 : decode cX11_keep 16 = .ok (.aaload, 1) := by decide +kernel
theorem dX11_keep_17 : decode cX11_keep 17 = .ok (.aload_n 0, 1) := by decide +kernel
theorem dX11_keep_18 : decode cX11_keep 18 = .ok (.getfield 56, 3) := by decide +kernel
theorem dX11_keep_21 : decode cX11_keep 21 = .ok (.invokevirtual 282, 3) := by decide +kernel
theorem dX11_keep_24 : decode cX11_keep 24 = .ok (.aload_n 0, 1) := by decide +kernel
theorem dX11_keep_25 : decode cX11_keep 25 = .ok (.getfield 74, 3) := by decide +kernel
theorem dX11_keep_28 : decode cX11_keep 28 = .ok (.iload_n 1, 1) := by decide +kernel
theorem dX11_keep_29 : decode cX11_keep 29 = .ok (.aload_n 0, 1) := by decide +kernel
theorem dX11_keep_30 : decode cX11_keep 30 = .ok (.getfield 33, 3) := by decide +kernel
theorem dX11_keep_33 : decode cX11_keep 33 = .ok (.getfield 134, 3) := by decide +kernel
theorem dX11_keep_36 : decode cX11_keep 36 = .ok (.iastore, 1) := by decide +kernel
theorem dX11_keep_37 : decode cX11_keep 37 = .ok (.iconst 1, 1) := by decide +kernel
theorem dX11_keep_38 : decode cX11_keep 38 = .ok (.ireturn, 1) := by decide +kernel
theorem dX11_again_0 : decode cX11_again 0 = .ok (.iload_n 1, 1) := by decide +kernel
theorem dX11_again_1 : decode cX11_again 1 = .ok (.iconst 0, 1) := by decide +kernel
theorem dX11_again_2 : decode cX11_again 2 = .ok (.iconst 2, 1) := by decide +kernel
theorem dX11_again_3 : decode cX11_again 3 = .ok (.invokestatic 203, 3) := by decide +kernel
theorem dX11_again_6 : decode cX11_again 6 = .ok (.ifCond .eq 19, 3) := by decide +kernel
theorem dX11_again_9 : decode cX11_again 9 = .ok (.aload_n 0, 1) := by decide +kernel
theorem dX11_again_10 : decode cX11_again 10 = .ok (.getfield 74, 3) := by decide +kernel
theorem dX11_again_13 : decode cX11_again 13 = .ok (.iload_n 1, 1) := by decide +kernel
theorem dX11_again_14 : decode cX11_again 14 = .ok (.iaload, 1) := by decide +kernel
theorem dX11_again_15 : decode cX11_again 15 = .ok (.aload_n 0, 1) := by decide +kernel
theorem dX11_again_16 : decode cX11_again 16 = .ok (.getfield 33, 3) := by decide +kernel
theorem dX11_again_19 : decode cX11_again 19 = .ok (.getfield 134, 3) := by decide +kernel
theorem dX11_again_22 : decode cX11_again 22 = .ok (.if_icmp .eq 5, 3) := by decide +kernel
theorem dX11_again_25 : decode cX11_again 25 = .ok (.iconst 0, 1) := by decide +kernel
theorem dX11_again_26 : decode cX11_again 26 = .ok (.ireturn, 1) := by decide +kernel
theorem dX11_again_27 : decode cX11_again 27 = .ok (.aload_n 0, 1) := by decide +kernel
theorem dX11_again_28 : decode cX11_again 28 = .ok (.getfield 56, 3) := by decide +kernel
theorem dX11_again_31 : decode cX11_again 31 = .ok (.aload_n 0, 1) := by decide +kernel
theorem dX11_again_32 : decode cX11_again 32 = .ok (.getfield 70, 3) := by decide +kernel
theorem dX11_again_35 : decode cX11_again 35 = .ok (.iload_n 1, 1) := by decide +kernel
theorem dX11_again_36 : decode cX11_again 36 = .ok (.aaload, 1) := by decide +kernel
theorem dX11_again_37 : decode cX11_again 37 = .ok (.invokevirtual 282, 3) := by decide +kernel
theorem dX11_again_40 : decode cX11_again 40 = .ok (.aload_n 0, 1) := by decide +kernel
theorem dX11_again_41 : decode cX11_again 41 = .ok (.getfield 66, 3) := by decide +kernel
theorem dX11_again_44 : decode cX11_again 44 = .ok (.invokevirtual 130, 3) := by decide +kernel
theorem dX11_again_47 : decode cX11_again 47 = .ok (.iconst 1, 1) := by decide +kernel
theorem dX11_again_48 : decode cX11_again 48 = .ok (.ireturn, 1) := by decide +kernel
theorem dX11_count_0 : decode cX11_count 0 = .ok (.iload_n 1, 1) := by decide +kernel
theorem dX11_count_1 : decode cX11_count 1 = .ok (.tableswitch 177 0 13 #[71, 79, 87, 95, 100, 105, 113, 121, 129, 137, 145, 153, 161, 169], 71) := by decide +kernel
theorem dX11_count_72 : decode cX11_count 72 = .ok (.aload_n 0, 1) := by decide +kernel
theorem dX11_count_73 : decode cX11_count 73 = .ok (.getfield 26, 3) := by decide +kernel
theorem dX11_count_76 : decode cX11_count 76 = .ok (.getfield 131, 3) := by decide +kernel
theorem dX11_count_79 : decode cX11_count 79 = .ok (.ireturn, 1) := by decide +kernel
theorem dX11_count_80 : decode cX11_count 80 = .ok (.aload_n 0, 1) := by decide +kernel
theorem dX11_count_81 : decode cX11_count 81 = .ok (.getfield 33, 3) := by decide +kernel
theorem dX11_count_84 : decode cX11_count 84 = .ok (.getfield 134, 3) := by decide +kernel
theorem dX11_count_87 : decode cX11_count 87 = .ok (.ireturn, 1) := by decide +kernel
theorem dX11_count_88 : decode cX11_count 88 = .ok (.aload_n 0, 1) := by decide +kernel
theorem dX11_count_89 : decode cX11_count 89 = .ok (.getfield 56, 3) := by decide +kernel
theorem dX11_count_92 : decode cX11_count 92 = .ok (.getfield 380, 3) := by decide +kernel
theorem dX11_count_95 : decode cX11_count 95 = .ok (.ireturn, 1) := by decide +kernel
theorem dX11_count_96 : decode cX11_count 96 = .ok (.aload_n 0, 1) := by decide +kernel
theorem dX11_count_97 : decode cX11_count 97 = .ok (.getfield 207, 3) := by decide +kernel
theorem dX11_count_100 : decode cX11_count 100 = .ok (.ireturn, 1) := by decide +kernel
theorem dX11_count_101 : decode cX11_count 101 = .ok (.aload_n 0, 1) := by decide +kernel
theorem dX11_count_102 : decode cX11_count 102 = .ok (.getfield 47, 3) := by decide +kernel
theorem dX11_count_105 : decode cX11_count 105 = .ok (.ireturn, 1) := by decide +kernel
theorem dX11_count_106 : decode cX11_count 106 = .ok (.aload_n 0, 1) := by decide +kernel
theorem dX11_count_107 : decode cX11_count 107 = .ok (.getfield 56, 3) := by decide +kernel
theorem dX11_count_110 : decode cX11_count 110 = .ok (.getfield 192, 3) := by decide +kernel
theorem dX11_count_113 : decode cX11_count 113 = .ok (.ireturn, 1) := by decide +kernel
theorem dX11_count_114 : decode cX11_count 114 = .ok (.aload_n 0, 1) := by decide +kernel
theorem dX11_count_115 : decode cX11_count 115 = .ok (.getfield 56, 3) := by decide +kernel
theorem dX11_count_118 : decode cX11_count 118 = .ok (.getfield 159, 3) := by decide +kernel
theorem dX11_count_121 : decode cX11_count 121 = .ok (.ireturn, 1) := by decide +kernel
theorem dX11_count_122 : decode cX11_count 122 = .ok (.aload_n 0, 1) := by decide +kernel
theorem dX11_count_123 : decode cX11_count 123 = .ok (.getfield 56, 3) := by decide +kernel
theorem dX11_count_126 : decode cX11_count 126 = .ok (.invokevirtual 261, 3) := by decide +kernel
theorem dX11_count_129 : decode cX11_count 129 = .ok (.ireturn, 1) := by decide +kernel
theorem dX11_count_130 : decode cX11_count 130 = .ok (.aload_n 0, 1) := by decide +kernel
theorem dX11_count_131 : decode cX11_count 131 = .ok (.getfield 56, 3) := by decide +kernel
theorem dX11_count_134 : decode cX11_count 134 = .ok (.invokevirtual 330, 3) := by decide +kernel
theorem dX11_count_137 : decode cX11_count 137 = .ok (.ireturn, 1) := by decide +kernel
theorem dX11_count_138 : decode cX11_count 138 = .ok (.aload_n 0, 1) := by decide +kernel
theorem dX11_count_139 : decode cX11_count 139 = .ok (.getfield 56, 3) := by decide +kernel
theorem dX11_count_142 : decode cX11_count 142 = .ok (.invokevirtual 333, 3) := by decide +kernel
theorem dX11_count_145 : decode cX11_count 145 = .ok (.ireturn, 1) := by decide +kernel
theorem dX11_count_146 : decode cX11_count 146 = .ok (.aload_n 0, 1) := by decide +kernel
theorem dX11_count_147 : decode cX11_count 147 = .ok (.getfield 83, 3) := by decide +kernel
theorem dX11_count_150 : decode cX11_count 150 = .ok (.getfield 339, 3) := by decide +kernel
theorem dX11_count_153 : decode cX11_count 153 = .ok (.ireturn, 1) := by decide +kernel
theorem dX11_count_154 : decode cX11_count 154 = .ok (.aload_n 0, 1) := by decide +kernel
theorem dX11_count_155 : decode cX11_count 155 = .ok (.getfield 66, 3) := by decide +kernel
theorem dX11_count_158 : decode cX11_count 158 = .ok (.getfield 383, 3) := by decide +kernel
theorem dX11_count_161 : decode cX11_count 161 = .ok (.ireturn, 1) := by decide +kernel
theorem dX11_count_162 : decode cX11_count 162 = .ok (.aload_n 0, 1) := by decide +kernel
theorem dX11_count_163 : decode cX11_count 163 = .ok (.getfield 19, 3) := by decide +kernel
theorem dX11_count_166 : decode cX11_count 166 = .ok (.getfield 384, 3) := by decide +kernel
theorem dX11_count_169 : decode cX11_count 169 = .ok (.ireturn, 1) := by decide +kernel
theorem dX11_count_170 : decode cX11_count 170 = .ok (.aload_n 0, 1) := by decide +kernel
theorem dX11_count_171 : decode cX11_count 171 = .ok (.getfield 10, 3) := by decide +kernel
theorem dX11_count_174 : decode cX11_count 174 = .ok (.getfield 114, 3) := by decide +kernel
theorem dX11_count_177 : decode cX11_count 177 = .ok (.ireturn, 1) := by decide +kernel
theorem dX11_count_178 : decode cX11_count 178 = .ok (.bipush (-100), 2) := by decide +kernel
theorem dX11_count_180 : decode cX11_count 180 = .ok (.ireturn, 1) := by decide +kernel
theorem dX11_row_0 : decode cX11_row 0 = .ok (.iload_n 1, 1) := by decide +kernel
theorem dX11_row_1 : decode cX11_row 1 = .ok (.iconst 0, 1) := by decide +kernel
theorem dX11_row_2 : decode cX11_row 2 = .ok (.aload_n 0, 1) := by decide +kernel
theorem dX11_row_3 : decode cX11_row 3 = .ok (.getfield 19, 3) := by decide +kernel
theorem dX11_row_6 : decode cX11_row 6 = .ok (.getfield 384, 3) := by decide +kernel
theorem dX11_row_9 : decode cX11_row 9 = .ok (.iconst 1, 1) := by decide +kernel
theorem dX11_row_10 : decode cX11_row 10 = .ok (.isub, 1) := by decide +kernel
theorem dX11_row_11 : decode cX11_row 11 = .ok (.invokestatic 203, 3) := by decide +kernel
theorem dX11_row_14 : decode cX11_row 14 = .ok (.ifCond .ne 14, 3) := by decide +kernel
theorem dX11_row_17 : decode cX11_row 17 = .ok (.new 146, 3) := by decide +kernel
theorem dX11_row_20 : decode cX11_row 20 = .ok (.dup, 1) := by decide +kernel
theorem dX11_row_21 : decode cX11_row 21 = .ok (.ldc_w 385, 3) := by decide +kernel
theorem dX11_row_24 : decode cX11_row 24 = .ok (.invokespecial 150, 3) := by decide +kernel
theorem dX11_row_27 : decode cX11_row 27 = .ok (.athrow, 1) := by decide +kernel
theorem dX11_row_28 : decode cX11_row 28 = .ok (.aload_n 0, 1) := by decide +kernel
theorem dX11_row_29 : decode cX11_row 29 = .ok (.getfield 19, 3) := by decide +kernel
theorem dX11_row_32 : decode cX11_row 32 = .ok (.getfield 387, 3) := by decide +kernel
theorem dX11_row_35 : decode cX11_row 35 = .ok (.iload_n 1, 1) := by decide +kernel
theorem dX11_row_36 : decode cX11_row 36 = .ok (.laload, 1) := by decide +kernel
theorem dX11_row_37 : decode cX11_row 37 = .ok (.lreturn, 1) := by decide +kernel
theorem dX11_act_0 : decode cX11_act 0 = .ok (.aload_n 0, 1) := by decide +kernel
theorem dX11_act_1 : decode cX11_act 1 = .ok (.getfield 66, 3) := by decide +kernel
theorem dX11_act_4 : decode cX11_act 4 = .ok (.aload_n 0, 1) := by decide +kernel
theorem dX11_act_5 : decode cX11_act 5 = .ok (.getfield 56, 3) := by decide +kernel
theorem dX11_act_8 : decode cX11_act 8 = .ok (.invokevirtual 236, 3) := by decide +kernel
theorem dX11_act_11 : decode cX11_act 11 = .ok (.aload_n 0, 1) := by decide +kernel
theorem dX11_act_12 : decode cX11_act 12 = .ok (.iload_n 1, 1) := by decide +kernel
theorem dX11_act_13 : decode cX11_act 13 = .ok (.iload_n 2, 1) := by decide +kernel
theorem dX11_act_14 : decode cX11_act 14 = .ok (.iload_n 3, 1) := by decide +kernel
theorem dX11_act_15 : decode cX11_act 15 = .ok (.invokevirtual 250, 3) := by decide +kernel
theorem dX11_act_18 : decode cX11_act 18 = .ok (.istore 4, 2) := by decide +kernel
theorem dX11_act_20 : decode cX11_act 20 = .ok (.iload 4, 2) := by decide +kernel
theorem dX11_act_22 : decode cX11_act 22 = .ok (.ifCond .lt 10, 3) := by decide +kernel
theorem dX11_act_25 : decode cX11_act 25 = .ok (.aload_n 0, 1) := by decide +kernel
theorem dX11_act_26 : decode cX11_act 26 = .ok (.getfield 66, 3) := by decide +kernel
theorem dX11_act_29 : decode cX11_act 29 = .ok (.invokevirtual 258, 3) := by decide +kernel
theorem dX11_act_32 : decode cX11_act 32 = .ok (.iload 4, 2) := by decide +kernel
theorem dX11_act_34 : decode cX11_act 34 = .ok (.ireturn, 1) := by decide +kernel
theorem dX11_perform_0 : decode cX11_perform 0 = .ok (.iload_n 1, 1) := by decide +kernel
theorem dX11_perform_1 : decode cX11_perform 1 = .ok (.tableswitch 173 98 119 #[153, 173, 173, 173, 173, 103, 113, 173, 173, 173, 173, 144, 173, 173, 164, 173, 173, 122, 135, 173, 173, 159], 103) := by decide +kernel
theorem dX11_perform_104 : decode cX11_perform 104 = .ok (.aload_n 0, 1) := by decide +kernel
theorem dX11_perform_105 : decode cX11_perform 105 = .ok (.getfield 56, 3) := by decide +kernel
theorem dX11_perform_108 : decode cX11_perform 108 = .ok (.iload_n 2, 1) := by decide +kernel
theorem dX11_perform_109 : decode cX11_perform 109 = .ok (.iload_n 3, 1) := by decide +kernel
theorem dX11_perform_110 : decode cX11_perform 110 = .ok (.invokevirtual 391, 3) := by decide +kernel
theorem dX11_perform_113 : decode cX11_perform 113 = .ok (.ireturn, 1) := by decide +kernel
theorem dX11_perform_114 : decode cX11_perform 114 = .ok (.aload_n 0, 1) := by decide +kernel
theorem dX11_perform_115 : decode cX11_perform 115 = .ok (.getfield 56, 3) := by decide +kernel
theorem dX11_perform_118 : decode cX11_perform 118 = .ok (.iload_n 2, 1) := by decide +kernel
theorem dX11_perform_119 : decode cX11_perform 119 = .ok (.invokevirtual 394, 3) := by decide +kernel
theorem dX11_perform_122 : decode cX11_perform 122 = .ok (.ireturn, 1) := by decide +kernel
theorem dX11_perform_123 : decode cX11_perform 123 = .ok (.aload_n 0, 1) := by decide +kernel
theorem dX11_perform_124 : decode cX11_perform 124 = .ok (.getfield 56, 3) := by decide +kernel
theorem dX11_perform_127 : decode cX11_perform 127 = .ok (.iload_n 2, 1) := by decide +kernel
theorem dX11_perform_128 : decode cX11_perform 128 = .ok (.aload_n 0, 1) := by decide +kernel
theorem dX11_perform_129 : decode cX11_perform 129 = .ok (.getfield 47, 3) := by decide +kernel
theorem dX11_perform_132 : decode cX11_perform 132 = .ok (.invokevirtual 397, 3) := by decide +kernel
theorem dX11_perform_135 : decode cX11_perform 135 = .ok (.ireturn, 1) := by decide +kernel
theorem dX11_perform_136 : decode cX11_perform 136 = .ok (.aload_n 0, 1) := by decide +kernel
theorem dX11_perform_137 : decode cX11_perform 137 = .ok (.getfield 56, 3) := by decide +kernel
theorem dX11_perform_140 : decode cX11_perform 140 = .ok (.iload_n 2, 1) := by decide +kernel
theorem dX11_perform_141 : decode cX11_perform 141 = .ok (.invokevirtual 400, 3) := by decide +kernel
theorem dX11_perform_144 : decode cX11_perform 144 = .ok (.ireturn, 1) := by decide +kernel
theorem dX11_perform_145 : decode cX11_perform 145 = .ok (.aload_n 0, 1) := by decide +kernel
theorem dX11_perform_146 : decode cX11_perform 146 = .ok (.getfield 56, 3) := by decide +kernel
theorem dX11_perform_149 : decode cX11_perform 149 = .ok (.iload_n 2, 1) := by decide +kernel
theorem dX11_perform_150 : decode cX11_perform 150 = .ok (.invokevirtual 403, 3) := by decide +kernel
theorem dX11_perform_153 : decode cX11_perform 153 = .ok (.ireturn, 1) := by decide +kernel
theorem dX11_perform_154 : decode cX11_perform 154 = .ok (.aload_n 0, 1) := by decide +kernel
theorem dX11_perform_155 : decode cX11_perform 155 = .ok (.iload_n 2, 1) := by decide +kernel
theorem dX11_perform_156 : decode cX11_perform 156 = .ok (.invokevirtual 406, 3) := by decide +kernel
theorem dX11_perform_159 : decode cX11_perform 159 = .ok (.ireturn, 1) := by decide +kernel
theorem dX11_perform_160 : decode cX11_perform 160 = .ok (.aload_n 0, 1) := by decide +kernel
theorem dX11_perform_161 : decode cX11_perform 161 = .ok (.invokevirtual 409, 3) := by decide +kernel
theorem dX11_perform_164 : decode cX11_perform 164 = .ok (.ireturn, 1) := by decide +kernel
theorem dX11_perform_165 : decode cX11_perform 165 = .ok (.aload_n 0, 1) := by decide +kernel
theorem dX11_perform_166 : decode cX11_perform 166 = .ok (.getfield 56, 3) := by decide +kernel
theorem dX11_perform_169 : decode cX11_perform 169 = .ok (.iload_n 2, 1) := by decide +kernel
theorem dX11_perform_170 : decode cX11_perform 170 = .ok (.invokevirtual 412, 3) := by decide +kernel
theorem dX11_perform_173 : decode cX11_perform 173 = .ok (.ireturn, 1) := by decide +kernel
theorem dX11_perform_174 : decode cX11_perform 174 = .ok (.iconst (-1), 1) := by decide +kernel
theorem dX11_perform_175 : decode cX11_perform 175 = .ok (.ireturn, 1) := by decide +kernel
theorem dX11_buildAndTell_0 : decode cX11_buildAndTell 0 = .ok (.iload_n 1, 1) := by decide +kernel
theorem dX11_buildAndTell_1 : decode cX11_buildAndTell 1 = .ok (.iconst 0, 1) := by decide +kernel
theorem dX11_buildAndTell_2 : decode cX11_buildAndTell 2 = .ok (.bipush 30, 2) := by decide +kernel
theorem dX11_buildAndTell_4 : decode cX11_buildAndTell 4 = .ok (.invokestatic 203, 3) := by decide +kernel
theorem dX11_buildAndTell_7 : decode cX11_buildAndTell 7 = .ok (.ifCond .ne 5, 3) := by decide +kernel
theorem dX11_buildAndTell_10 : decode cX11_buildAndTell 10 = .ok (.iconst (-1), 1) := by decide +kernel
theorem dX11_buildAndTell_11 : decode cX11_buildAndTell 11 = .ok (.ireturn, 1) := by decide +kernel
theorem dX11_buildAndTell_12 : decode cX11_buildAndTell 12 = .ok (.aload_n 0, 1) := by decide +kernel
theorem dX11_buildAndTell_13 : decode cX11_buildAndTell 13 = .ok (.getfield 56, 3) := by decide +kernel
theorem dX11_buildAndTell_16 : decode cX11_buildAndTell 16 = .ok (.invokevirtual 333, 3) := by decide +kernel
theorem dX11_buildAndTell_19 : decode cX11_buildAndTell 19 = .ok (.istore_n 2, 1) := by decide +kernel
theorem dX11_buildAndTell_20 : decode cX11_buildAndTell 20 = .ok (.aload_n 0, 1) := by decide +kernel
theorem dX11_buildAndTell_21 : decode cX11_buildAndTell 21 = .ok (.getfield 56, 3) := by decide +kernel
theorem dX11_buildAndTell_24 : decode cX11_buildAndTell 24 = .ok (.invokevirtual 330, 3) := by decide +kernel
theorem dX11_buildAndTell_27 : decode cX11_buildAndTell 27 = .ok (.istore_n 3, 1) := by decide +kernel
theorem dX11_buildAndTell_28 : decode cX11_buildAndTell 28 = .ok (.aload_n 0, 1) := by decide +kernel
theorem dX11_buildAndTell_29 : decode cX11_buildAndTell 29 = .ok (.getfield 56, 3) := by decide +kernel
theorem dX11_buildAndTell_32 : decode cX11_buildAndTell 32 = .ok (.iload_n 1, 1) := by decide +kernel
theorem dX11_buildAndTell_33 : decode cX11_buildAndTell 33 = .ok (.invokevirtual 309, 3) := by decide +kernel
theorem dX11_buildAndTell_36 : decode cX11_buildAndTell 36 = .ok (.aload_n 0, 1) := by decide +kernel
theorem dX11_buildAndTell_37 : decode cX11_buildAndTell 37 = .ok (.getfield 19, 3) := by decide +kernel
theorem dX11_buildAndTell_40 : decode cX11_buildAndTell 40 = .ok (.aload_n 0, 1) := by decide +kernel
theorem dX11_buildAndTell_41 : decode cX11_buildAndTell 41 = .ok (.getfield 56, 3) := by decide +kernel
theorem dX11_buildAndTell_44 : decode cX11_buildAndTell 44 = .ok (.invokevirtual 330, 3) := by decide +kernel
theorem dX11_buildAndTell_47 : decode cX11_buildAndTell 47 = .ok (.iload_n 3, 1) := by decide +kernel
theorem dX11_buildAndTell_48 : decode cX11_buildAndTell 48 = .ok (.iconst (-1), 1) := by decide +kernel
theorem dX11_buildAndTell_49 : decode cX11_buildAndTell 49 = .ok (.ixor, 1) := by decide +kernel
theorem dX11_buildAndTell_50 : decode cX11_buildAndTell 50 = .ok (.iand, 1) := by decide +kernel
theorem dX11_buildAndTell_51 : decode cX11_buildAndTell 51 = .ok (.i2l, 1) := by decide +kernel
theorem dX11_buildAndTell_52 : decode cX11_buildAndTell 52 = .ok (.invokevirtual 279, 3) := by decide +kernel
theorem dX11_buildAndTell_55 : decode cX11_buildAndTell 55 = .ok (.aload_n 0, 1) := by decide +kernel
theorem dX11_buildAndTell_56 : decode cX11_buildAndTell 56 = .ok (.getfield 56, 3) := by decide +kernel
theorem dX11_buildAndTell_59 : decode cX11_buildAndTell 59 = .ok (.invokevirtual 333, 3) := by decide +kernel
theorem dX11_buildAndTell_62 : decode cX11_buildAndTell 62 = .ok (.iload_n 2, 1) := by decide +kernel
theorem dX11_buildAndTell_63 : decode cX11_buildAndTell 63 = .ok (.isub, 1) := by decide +kernel
theorem dX11_buildAndTell_64 : decode cX11_buildAndTell 64 = .ok (.ireturn, 1) := by decide +kernel
theorem dX11_surgeAndTell_0 : decode cX11_surgeAndTell 0 = .ok (.aload_n 0, 1) := by decide +kernel
theorem dX11_surgeAndTell_1 : decode cX11_surgeAndTell 1 = .ok (.getfield 56, 3) := by decide +kernel
theorem dX11_surgeAndTell_4 : decode cX11_surgeAndTell 4 = .ok (.invokevirtual 292, 3) := by decide +kernel
theorem dX11_surgeAndTell_7 : decode cX11_surgeAndTell 7 = .ok (.istore_n 1, 1) := by decide +kernel
theorem dX11_surgeAndTell_8 : decode cX11_surgeAndTell 8 = .ok (.aload_n 0, 1) := by decide +kernel
theorem dX11_surgeAndTell_9 : decode cX11_surgeAndTell 9 = .ok (.aload_n 0, 1) := by decide +kernel
theorem dX11_surgeAndTell_10 : decode cX11_surgeAndTell 10 = .ok (.getfield 40, 3) := by decide +kernel
theorem dX11_surgeAndTell_13 : decode cX11_surgeAndTell 13 = .ok (.aload_n 0, 1) := by decide +kernel
theorem dX11_surgeAndTell_14 : decode cX11_surgeAndTell 14 = .ok (.getfield 56, 3) := by decide +kernel
theorem dX11_surgeAndTell_17 : decode cX11_surgeAndTell 17 = .ok (.iconst 0, 1) := by decide +kernel
theorem dX11_surgeAndTell_18 : decode cX11_surgeAndTell 18 = .ok (.invokevirtual 272, 3) := by decide +kernel
theorem dX11_surgeAndTell_21 : decode cX11_surgeAndTell 21 = .ok (.istore_n 2, 1) := by decide +kernel
theorem dX11_surgeAndTell_22 : decode cX11_surgeAndTell 22 = .ok (.aload_n 0, 1) := by decide +kernel
theorem dX11_surgeAndTell_23 : decode cX11_surgeAndTell 23 = .ok (.getfield 56, 3) := by decide +kernel
theorem dX11_surgeAndTell_26 : decode cX11_surgeAndTell 26 = .ok (.iload_n 2, 1) := by decide +kernel
theorem dX11_surgeAndTell_27 : decode cX11_surgeAndTell 27 = .ok (.invokevirtual 285, 3) := by decide +kernel
theorem dX11_surgeAndTell_30 : decode cX11_surgeAndTell 30 = .ok (.istore_n 3, 1) := by decide +kernel
theorem dX11_surgeAndTell_31 : decode cX11_surgeAndTell 31 = .ok (.aload_n 0, 1) := by decide +kernel
theorem dX11_surgeAndTell_32 : decode cX11_surgeAndTell 32 = .ok (.getfield 19, 3) := by decide +kernel
theorem dX11_surgeAndTell_35 : decode cX11_surgeAndTell 35 = .ok (.iload_n 2, 1) := by decide +kernel
theorem dX11_surgeAndTell_36 : decode cX11_surgeAndTell 36 = .ok (.i2l, 1) := by decide +kernel
theorem dX11_surgeAndTell_37 : decode cX11_surgeAndTell 37 = .ok (.aload_n 0, 1) := by decide +kernel
theorem dX11_surgeAndTell_38 : decode cX11_surgeAndTell 38 = .ok (.getfield 56, 3) := by decide +kernel
theorem dX11_surgeAndTell_41 : decode cX11_surgeAndTell 41 = .ok (.invokevirtual 292, 3) := by decide +kernel
theorem dX11_surgeAndTell_44 : decode cX11_surgeAndTell 44 = .ok (.iload_n 1, 1) := by decide +kernel
theorem dX11_surgeAndTell_45 : decode cX11_surgeAndTell 45 = .ok (.isub, 1) := by decide +kernel
theorem dX11_surgeAndTell_46 : decode cX11_surgeAndTell 46 = .ok (.i2l, 1) := by decide +kernel
theorem dX11_surgeAndTell_47 : decode cX11_surgeAndTell 47 = .ok (.invokevirtual 264, 3) := by decide +kernel
theorem dX11_surgeAndTell_50 : decode cX11_surgeAndTell 50 = .ok (.iload_n 3, 1) := by decide +kernel
theorem dX11_surgeAndTell_51 : decode cX11_surgeAndTell 51 = .ok (.ireturn, 1) := by decide +kernel
theorem dX11_faultOfTale_0 : decode cX11_faultOfTale 0 = .ok (.aload_n 0, 1) := by decide +kernel
theorem dX11_faultOfTale_1 : decode cX11_faultOfTale 1 = .ok (.getfield 10, 3) := by decide +kernel
theorem dX11_faultOfTale_4 : decode cX11_faultOfTale 4 = .ok (.getfield 114, 3) := by decide +kernel
theorem dX11_faultOfTale_7 : decode cX11_faultOfTale 7 = .ok (.bipush 60, 2) := by decide +kernel
theorem dX11_faultOfTale_9 : decode cX11_faultOfTale 9 = .ok (.invokestatic 415, 3) := by decide +kernel
theorem dX11_faultOfTale_12 : decode cX11_faultOfTale 12 = .ok (.istore_n 1, 1) := by decide +kernel
theorem dX11_faultOfTale_13 : decode cX11_faultOfTale 13 = .ok (.iconst 0, 1) := by decide +kernel
theorem dX11_faultOfTale_14 : decode cX11_faultOfTale 14 = .ok (.istore_n 2, 1) := by decide +kernel
theorem dX11_faultOfTale_15 : decode cX11_faultOfTale 15 = .ok (.iload_n 2, 1) := by decide +kernel
theorem dX11_faultOfTale_16 : decode cX11_faultOfTale 16 = .ok (.iload_n 1, 1) := by decide +kernel
theorem dX11_faultOfTale_17 : decode cX11_faultOfTale 17 = .ok (.if_icmp .ge 76, 3) := by decide +kernel
theorem dX11_faultOfTale_20 : decode cX11_faultOfTale 20 = .ok (.aload_n 0, 1) := by decide +kernel
theorem dX11_faultOfTale_21 : decode cX11_faultOfTale 21 = .ok (.getfield 10, 3) := by decide +kernel
theorem dX11_faultOfTale_24 : decode cX11_faultOfTale 24 = .ok (.getfield 240, 3) := by decide +kernel
theorem dX11_faultOfTale_27 : decode cX11_faultOfTale 27 = .ok (.iload_n 2, 1) := by decide +kernel
theorem dX11_faultOfTale_28 : decode cX11_faultOfTale 28 = .ok (.caload, 1) := by decide +kernel
theorem dX11_faultOfTale_29 : decode cX11_faultOfTale 29 = .ok (.istore_n 3, 1) := by decide +kernel
theorem dX11_faultOfTale_30 : decode cX11_faultOfTale 30 = .ok (.iload_n 3, 1) := by decide +kernel
theorem dX11_faultOfTale_31 : decode cX11_faultOfTale 31 = .ok (.invokestatic 244, 3) := by decide +kernel
theorem dX11_faultOfTale_34 : decode cX11_faultOfTale 34 = .ok (.istore 4, 2) := by decide +kernel
theorem dX11_faultOfTale_36 : decode cX11_faultOfTale 36 = .ok (.iload 4, 2) := by decide +kernel
theorem dX11_faultOfTale_38 : decode cX11_faultOfTale 38 = .ok (.ifCond .ge 5, 3) := by decide +kernel
theorem dX11_faultOfTale_41 : decode cX11_faultOfTale 41 = .ok (.iload_n 2, 1) := by decide +kernel
theorem dX11_faultOfTale_42 : decode cX11_faultOfTale 42 = .ok (.ireturn, 1) := by decide +kernel
theorem dX11_faultOfTale_43 : decode cX11_faultOfTale 43 = .ok (.iinc 2 1, 3) := by decide +kernel
theorem dX11_faultOfTale_46 : decode cX11_faultOfTale 46 = .ok (.iconst 0, 1) := by decide +kernel
theorem dX11_faultOfTale_47 : decode cX11_faultOfTale 47 = .ok (.istore 5, 2) := by decide +kernel
theorem dX11_faultOfTale_49 : decode cX11_faultOfTale 49 = .ok (.iload 5, 2) := by decide +kernel
theorem dX11_faultOfTale_51 : decode cX11_faultOfTale 51 = .ok (.iload 4, 2) := by decide +kernel
theorem dX11_faultOfTale_53 : decode cX11_faultOfTale 53 = .ok (.if_icmp .ge 37, 3) := by decide +kernel
theorem dX11_faultOfTale_56 : decode cX11_faultOfTale 56 = .ok (.iload_n 2, 1) := by decide +kernel
theorem dX11_faultOfTale_57 : decode cX11_faultOfTale 57 = .ok (.iload_n 1, 1) := by decide +kernel
theorem dX11_faultOfTale_58 : decode cX11_faultOfTale 58 = .ok (.if_icmp .ge 21, 3) := by decide +kernel
theorem dX11_faultOfTale_61 : decode cX11_faultOfTale 61 = .ok (.iload_n 3, 1) := by decide +kernel
theorem dX11_faultOfTale_62 : decode cX11_faultOfTale 62 = .ok (.iload 5, 2) := by decide +kernel
theorem dX11_faultOfTale_64 : decode cX11_faultOfTale 64 = .ok (.aload_n 0, 1) := by decide +kernel
theorem dX11_faultOfTale_65 : decode cX11_faultOfTale 65 = .ok (.getfield 10, 3) := by decide +kernel
theorem dX11_faultOfTale_68 : decode cX11_faultOfTale 68 = .ok (.getfield 240, 3) := by decide +kernel
theorem dX11_faultOfTale_71 : decode cX11_faultOfTale 71 = .ok (.iload_n 2, 1) := by decide +kernel
theorem dX11_faultOfTale_72 : decode cX11_faultOfTale 72 = .ok (.caload, 1) := by decide +kernel
theorem dX11_faultOfTale_73 : decode cX11_faultOfTale 73 = .ok (.invokestatic 418, 3) := by decide +kernel
theorem dX11_faultOfTale_76 : decode cX11_faultOfTale 76 = .ok (.ifCond .ne 5, 3) := by decide +kernel
theorem dX11_faultOfTale_79 : decode cX11_faultOfTale 79 = .ok (.iload_n 2, 1) := by decide +kernel
theorem dX11_faultOfTale_80 : decode cX11_faultOfTale 80 = .ok (.ireturn, 1) := by decide +kernel
theorem dX11_faultOfTale_81 : decode cX11_faultOfTale 81 = .ok (.iinc 2 1, 3) := by decide +kernel
theorem dX11_faultOfTale_84 : decode cX11_faultOfTale 84 = .ok (.iinc 5 1, 3) := by decide +kernel
theorem dX11_faultOfTale_87 : decode cX11_faultOfTale 87 = .ok (.goto (-38), 3) := by decide +kernel
theorem dX11_faultOfTale_90 : decode cX11_faultOfTale 90 = .ok (.goto (-75), 3) := by decide +kernel
theorem dX11_faultOfTale_93 : decode cX11_faultOfTale 93 = .ok (.aload_n 0, 1) := by decide +kernel
theorem dX11_faultOfTale_94 : decode cX11_faultOfTale 94 = .ok (.getfield 10, 3) := by decide +kernel
theorem dX11_faultOfTale_97 : decode cX11_faultOfTale 97 = .ok (.getfield 114, 3) := by decide +kernel
theorem dX11_faultOfTale_100 : decode cX11_faultOfTale 100 = .ok (.iload_n 1, 1) := by decide +kernel
theorem dX11_faultOfTale_101 : decode cX11_faultOfTale 101 = .ok (.if_icmp .le 7, 3) := by decide +kernel
theorem dX11_faultOfTale_104 : decode cX11_faultOfTale 104 = .ok (.iload_n 1, 1) := by decide +kernel
theorem dX11_faultOfTale_105 : decode cX11_faultOfTale 105 = .ok (.goto 4, 3) := by decide +kernel
theorem dX11_faultOfTale_108 : decode cX11_faultOfTale 108 = .ok (.iconst (-1), 1) := by decide +kernel
theorem dX11_faultOfTale_109 : decode cX11_faultOfTale 109 = .ok (.ireturn, 1) := by decide +kernel
theorem dX11_wordsOf_0 : decode cX11_wordsOf 0 = .ok (.iload_n 0, 1) := by decide +kernel
theorem dX11_wordsOf_1 : decode cX11_wordsOf 1 = .ok (.tableswitch 109 98 119 #[105, 109, 109, 109, 109, 103, 105, 109, 109, 109, 109, 105, 109, 109, 109, 109, 109, 105, 105, 109, 109, 107], 103) := by decide +kernel
theorem dX11_wordsOf_104 : decode cX11_wordsOf 104 = .ok (.iconst 2, 1) := by decide +kernel
theorem dX11_wordsOf_105 : decode cX11_wordsOf 105 = .ok (.ireturn, 1) := by decide +kernel
theorem dX11_wordsOf_106 : decode cX11_wordsOf 106 = .ok (.iconst 1, 1) := by decide +kernel
theorem dX11_wordsOf_107 : decode cX11_wordsOf 107 = .ok (.ireturn, 1) := by decide +kernel
theorem dX11_wordsOf_108 : decode cX11_wordsOf 108 = .ok (.iconst 0, 1) := by decide +kernel
theorem dX11_wordsOf_109 : decode cX11_wordsOf 109 = .ok (.ireturn, 1) := by decide +kernel
theorem dX11_wordsOf_110 : decode cX11_wordsOf 110 = .ok (.iconst (-1), 1) := by decide +kernel
theorem dX11_wordsOf_111 : decode cX11_wordsOf 111 = .ok (.ireturn, 1) := by decide +kernel
theorem dX11_wordFits_0 : decode cX11_wordFits 0 = .ok (.iload_n 0, 1) := by decide +kernel
theorem dX11_wordFits_1 : decode cX11_wordFits 1 = .ok (.bipush 98, 2) := by decide +kernel
theorem dX11_wordFits_3 : decode cX11_wordFits 3 = .ok (.if_icmp .ne 8, 3) := by decide +kernel
theorem dX11_wordFits_6 : decode cX11_wordFits 6 = .ok (.iload_n 2, 1) := by decide +kernel
theorem dX11_wordFits_7 : decode cX11_wordFits 7 = .ok (.invokestatic 421, 3) := by decide +kernel
theorem dX11_wordFits_10 : decode cX11_wordFits 10 = .ok (.ireturn, 1) := by decide +kernel
theorem dX11_wordFits_11 : decode cX11_wordFits 11 = .ok (.iload_n 0, 1) := by decide +kernel
theorem dX11_wordFits_12 : decode cX11_wordFits 12 = .ok (.bipush 109, 2) := by decide +kernel
theorem dX11_wordFits_14 : decode cX11_wordFits 14 = .ok (.if_icmp .eq 8, 3) := by decide +kernel
theorem dX11_wordFits_17 : decode cX11_wordFits 17 = .ok (.iload_n 1, 1) := by decide +kernel
theorem dX11_wordFits_18 : decode cX11_wordFits 18 = .ok (.iconst 1, 1) := by decide +kernel
theorem dX11_wordFits_19 : decode cX11_wordFits 19 = .ok (.if_icmp .ne 7, 3) := by decide +kernel
theorem dX11_wordFits_22 : decode cX11_wordFits 22 = .ok (.iconst 1, 1) := by decide +kernel
theorem dX11_wordFits_23 : decode cX11_wordFits 23 = .ok (.goto 4, 3) := by decide +kernel
theorem dX11_wordFits_26 : decode cX11_wordFits 26 = .ok (.iconst 0, 1) := by decide +kernel
theorem dX11_wordFits_27 : decode cX11_wordFits 27 = .ok (.istore_n 3, 1) := by decide +kernel
theorem dX11_wordFits_28 : decode cX11_wordFits 28 = .ok (.iload_n 2, 1) := by decide +kernel
theorem dX11_wordFits_29 : decode cX11_wordFits 29 = .ok (.bipush 97, 2) := by decide +kernel
theorem dX11_wordFits_31 : decode cX11_wordFits 31 = .ok (.iload_n 3, 1) := by decide +kernel
theorem dX11_wordFits_32 : decode cX11_wordFits 32 = .ok (.ifCond .eq 8, 3) := by decide +kernel
theorem dX11_wordFits_35 : decode cX11_wordFits 35 = .ok (.bipush 108, 2) := by decide +kernel
theorem dX11_wordFits_37 : decode cX11_wordFits 37 = .ok (.goto 5, 3) := by decide +kernel
theorem dX11_wordFits_40 : decode cX11_wordFits 40 = .ok (.bipush 104, 2) := by decide +kernel
theorem dX11_wordFits_42 : decode cX11_wordFits 42 = .ok (.invokestatic 203, 3) := by decide +kernel
theorem dX11_wordFits_45 : decode cX11_wordFits 45 = .ok (.ireturn, 1) := by decide +kernel
theorem dX11_wordAt_0 : decode cX11_wordAt 0 = .ok (.iload_n 1, 1) := by decide +kernel
theorem dX11_wordAt_1 : decode cX11_wordAt 1 = .ok (.iconst 0, 1) := by decide +kernel
theorem dX11_wordAt_2 : decode cX11_wordAt 2 = .ok (.bipush 79, 2) := by decide +kernel
theorem dX11_wordAt_4 : decode cX11_wordAt 4 = .ok (.invokestatic 203, 3) := by decide +kernel
theorem dX11_wordAt_7 : decode cX11_wordAt 7 = .ok (.ifCond .ne 5, 3) := by decide +kernel
theorem dX11_wordAt_10 : decode cX11_wordAt 10 = .ok (.iconst (-1), 1) := by decide +kernel
theorem dX11_wordAt_11 : decode cX11_wordAt 11 = .ok (.ireturn, 1) := by decide +kernel
theorem dX11_wordAt_12 : decode cX11_wordAt 12 = .ok (.aload_n 0, 1) := by decide +kernel
theorem dX11_wordAt_13 : decode cX11_wordAt 13 = .ok (.getfield 10, 3) := by decide +kernel
theorem dX11_wordAt_16 : decode cX11_wordAt 16 = .ok (.getfield 240, 3) := by decide +kernel
theorem dX11_wordAt_19 : decode cX11_wordAt 19 = .ok (.iload_n 1, 1) := by decide +kernel
theorem dX11_wordAt_20 : decode cX11_wordAt 20 = .ok (.caload, 1) := by decide +kernel
theorem dX11_wordAt_21 : decode cX11_wordAt 21 = .ok (.istore_n 2, 1) := by decide +kernel
theorem dX11_wordAt_22 : decode cX11_wordAt 22 = .ok (.iload_n 2, 1) := by decide +kernel
theorem dX11_wordAt_23 : decode cX11_wordAt 23 = .ok (.invokestatic 421, 3) := by decide +kernel
theorem dX11_wordAt_26 : decode cX11_wordAt 26 = .ok (.ifCond .eq 10, 3) := by decide +kernel
theorem dX11_wordAt_29 : decode cX11_wordAt 29 = .ok (.iload_n 2, 1) := by decide +kernel
theorem dX11_wordAt_30 : decode cX11_wordAt 30 = .ok (.bipush 48, 2) := by decide +kernel
theorem dX11_wordAt_32 : decode cX11_wordAt 32 = .ok (.isub, 1) := by decide +kernel
theorem dX11_wordAt_33 : decode cX11_wordAt 33 = .ok (.goto 7, 3) := by decide +kernel
theorem dX11_wordAt_36 : decode cX11_wordAt 36 = .ok (.iload_n 2, 1) := by decide +kernel
theorem dX11_wordAt_37 : decode cX11_wordAt 37 = .ok (.bipush 97, 2) := by decide +kernel
theorem dX11_wordAt_39 : decode cX11_wordAt 39 = .ok (.isub, 1) := by decide +kernel
theorem dX11_wordAt_40 : decode cX11_wordAt 40 = .ok (.ireturn, 1) := by decide +kernel
theorem dX11_heightOf_0 : decode cX11_heightOf 0 = .ok (.aload_n 1, 1) := by decide +kernel
theorem dX11_heightOf_1 : decode cX11_heightOf 1 = .ok (.aload_n 2, 1) := by decide +kernel
theorem dX11_heightOf_2 : decode cX11_heightOf 2 = .ok (.getfield 380, 3) := by decide +kernel
theorem dX11_heightOf_5 : decode cX11_heightOf 5 = .ok (.iload_n 3, 1) := by decide +kernel
theorem dX11_heightOf_6 : decode cX11_heightOf 6 = .ok (.iadd, 1) := by decide +kernel
theorem dX11_heightOf_7 : decode cX11_heightOf 7 = .ok (.bipush 8, 2) := by decide +kernel
theorem dX11_heightOf_9 : decode cX11_heightOf 9 = .ok (.irem, 1) := by decide +kernel
theorem dX11_heightOf_10 : decode cX11_heightOf 10 = .ok (.aload_n 0, 1) := by decide +kernel
theorem dX11_heightOf_11 : decode cX11_heightOf 11 = .ok (.getfield 207, 3) := by decide +kernel
theorem dX11_heightOf_14 : decode cX11_heightOf 14 = .ok (.aload_n 0, 1) := by decide +kernel
theorem dX11_heightOf_15 : decode cX11_heightOf 15 = .ok (.getfield 26, 3) := by decide +kernel
theorem dX11_heightOf_18 : decode cX11_heightOf 18 = .ok (.getfield 131, 3) := by decide +kernel
theorem dX11_heightOf_21 : decode cX11_heightOf 21 = .ok (.aload_n 2, 1) := by decide +kernel
theorem dX11_heightOf_22 : decode cX11_heightOf 22 = .ok (.getfield 159, 3) := by decide +kernel
theorem dX11_heightOf_25 : decode cX11_heightOf 25 = .ok (.invokestatic 210, 3) := by decide +kernel
theorem dX11_heightOf_28 : decode cX11_heightOf 28 = .ok (.invokevirtual 424, 3) := by decide +kernel
theorem dX11_heightOf_31 : decode cX11_heightOf 31 = .ok (.ireturn, 1) := by decide +kernel
theorem dX11_breaksOf_0 : decode cX11_breaksOf 0 = .ok (.aload_n 0, 1) := by decide +kernel
theorem dX11_breaksOf_1 : decode cX11_breaksOf 1 = .ok (.getfield 60, 3) := by decide +kernel
theorem dX11_breaksOf_4 : decode cX11_breaksOf 4 = .ok (.aload_n 0, 1) := by decide +kernel
theorem dX11_breaksOf_5 : decode cX11_breaksOf 5 = .ok (.getfield 56, 3) := by decide +kernel
theorem dX11_breaksOf_8 : decode cX11_breaksOf 8 = .ok (.invokevirtual 282, 3) := by decide +kernel
theorem dX11_breaksOf_11 : decode cX11_breaksOf 11 = .ok (.iconst 0, 1) := by decide +kernel
theorem dX11_breaksOf_12 : decode cX11_breaksOf 12 = .ok (.istore_n 3, 1) := by decide +kernel
theorem dX11_breaksOf_13 : decode cX11_breaksOf 13 = .ok (.iconst 0, 1) := by decide +kernel
theorem dX11_breaksOf_14 : decode cX11_breaksOf 14 = .ok (.istore 4, 2) := by decide +kernel
theorem dX11_breaksOf_16 : decode cX11_breaksOf 16 = .ok (.iload 4, 2) := by decide +kernel
theorem dX11_breaksOf_18 : decode cX11_breaksOf 18 = .ok (.iload_n 2, 1) := by decide +kernel
theorem dX11_breaksOf_19 : decode cX11_breaksOf 19 = .ok (.if_icmp .ge 32, 3) := by decide +kernel
theorem dX11_breaksOf_22 : decode cX11_breaksOf 22 = .ok (.aload_n 0, 1) := by decide +kernel
theorem dX11_breaksOf_23 : decode cX11_breaksOf 23 = .ok (.getfield 60, 3) := by decide +kernel
theorem dX11_breaksOf_26 : decode cX11_breaksOf 26 = .ok (.aload_n 0, 1) := by decide +kernel
theorem dX11_breaksOf_27 : decode cX11_breaksOf 27 = .ok (.aload_n 1, 1) := by decide +kernel
theorem dX11_breaksOf_28 : decode cX11_breaksOf 28 = .ok (.aload_n 0, 1) := by decide +kernel
theorem dX11_breaksOf_29 : decode cX11_breaksOf 29 = .ok (.getfield 60, 3) := by decide +kernel
theorem dX11_breaksOf_32 : decode cX11_breaksOf 32 = .ok (.iconst 0, 1) := by decide +kernel
theorem dX11_breaksOf_33 : decode cX11_breaksOf 33 = .ok (.invokevirtual 272, 3) := by decide +kernel
theorem dX11_breaksOf_36 : decode cX11_breaksOf 36 = .ok (.invokevirtual 285, 3) := by decide +kernel
theorem dX11_breaksOf_39 : decode cX11_breaksOf 39 = .ok (.ifCond .eq 6, 3) := by decide +kernel
theorem dX11_breaksOf_42 : decode cX11_breaksOf 42 = .ok (.iinc 3 1, 3) := by decide +kernel
theorem dX11_breaksOf_45 : decode cX11_breaksOf 45 = .ok (.iinc 4 1, 3) := by decide +kernel
theorem dX11_breaksOf_48 : decode cX11_breaksOf 48 = .ok (.goto (-32), 3) := by decide +kernel
theorem dX11_breaksOf_51 : decode cX11_breaksOf 51 = .ok (.iload_n 3, 1) := by decide +kernel
theorem dX11_breaksOf_52 : decode cX11_breaksOf 52 = .ok (.ireturn, 1) := by decide +kernel
theorem dX11_bestForSpade_0 : decode cX11_bestForSpade 0 = .ok (.aload_n 0, 1) := by decide +kernel
theorem dX11_bestForSpade_1 : decode cX11_bestForSpade 1 = .ok (.getfield 60, 3) := by decide +kernel
theorem dX11_bestForSpade_4 : decode cX11_bestForSpade 4 = .ok (.getfield 192, 3) := by decide +kernel
theorem dX11_bestForSpade_7 : decode cX11_bestForSpade 7 = .ok (.istore_n 1, 1) := by decide +kernel
theorem dX11_bestForSpade_8 : decode cX11_bestForSpade 8 = .ok (.iconst 0, 1) := by decide +kernel
theorem dX11_bestForSpade_9 : decode cX11_bestForSpade 9 = .ok (.istore_n 2, 1) := by decide +kernel
theorem dX11_bestForSpade_10 : decode cX11_bestForSpade 10 = .ok (.iconst 0, 1) := by decide +kernel
theorem dX11_bestForSpade_11 : decode cX11_bestForSpade 11 = .ok (.istore_n 3, 1) := by decide +kernel
theorem dX11_bestForSpade_12 : decode cX11_bestForSpade 12 = .ok (.iconst 0, 1) := by decide +kernel
theorem dX11_bestForSpade_13 : decode cX11_bestForSpade 13 = .ok (.istore 4, 2) := by decide +kernel
theorem dX11_bestForSpade_15 : decode cX11_bestForSpade 15 = .ok (.iload 4, 2) := by decide +kernel
theorem dX11_bestForSpade_17 : decode cX11_bestForSpade 17 = .ok (.aload_n 0, 1) := by decide +kernel
theorem dX11_bestForSpade_18 : decode cX11_bestForSpade 18 = .ok (.getfield 33, 3) := by decide +kernel
theorem dX11_bestForSpade_21 : decode cX11_bestForSpade 21 = .ok (.getfield 134, 3) := by decide +kernel
theorem dX11_bestForSpade_24 : decode cX11_bestForSpade 24 = .ok (.if_icmp .ge 69, 3) := by decide +kernel
theorem dX11_bestForSpade_27 : decode cX11_bestForSpade 27 = .ok (.aload_n 0, 1) := by decide +kernel
theorem dX11_bestForSpade_28 : decode cX11_bestForSpade 28 = .ok (.getfield 60, 3) := by decide +kernel
theorem dX11_bestForSpade_31 : decode cX11_bestForSpade 31 = .ok (.iload 4, 2) := by decide +kernel
theorem dX11_bestForSpade_33 : decode cX11_bestForSpade 33 = .ok (.invokevirtual 198, 3) := by decide +kernel
theorem dX11_bestForSpade_36 : decode cX11_bestForSpade 36 = .ok (.istore 5, 2) := by decide +kernel
theorem dX11_bestForSpade_38 : decode cX11_bestForSpade 38 = .ok (.aload_n 0, 1) := by decide +kernel
theorem dX11_bestForSpade_39 : decode cX11_bestForSpade 39 = .ok (.getfield 60, 3) := by decide +kernel
theorem dX11_bestForSpade_42 : decode cX11_bestForSpade 42 = .ok (.iload_n 1, 1) := by decide +kernel
theorem dX11_bestForSpade_43 : decode cX11_bestForSpade 43 = .ok (.iconst 1, 1) := by decide +kernel
theorem dX11_bestForSpade_44 : decode cX11_bestForSpade 44 = .ok (.iload 4, 2) := by decide +kernel
theorem dX11_bestForSpade_46 : decode cX11_bestForSpade 46 = .ok (.ishl, 1) := by decide +kernel
theorem dX11_bestForSpade_47 : decode cX11_bestForSpade 47 = .ok (.ior, 1) := by decide +kernel
theorem dX11_bestForSpade_48 : decode cX11_bestForSpade 48 = .ok (.putfield 192, 3) := by decide +kernel
theorem dX11_bestForSpade_51 : decode cX11_bestForSpade 51 = .ok (.aload_n 0, 1) := by decide +kernel
theorem dX11_bestForSpade_52 : decode cX11_bestForSpade 52 = .ok (.getfield 60, 3) := by decide +kernel
theorem dX11_bestForSpade_55 : decode cX11_bestForSpade 55 = .ok (.iload 4, 2) := by decide +kernel
theorem dX11_bestForSpade_57 : decode cX11_bestForSpade 57 = .ok (.invokevirtual 198, 3) := by decide +kernel
theorem dX11_bestForSpade_60 : decode cX11_bestForSpade 60 = .ok (.iload 5, 2) := by decide +kernel
theorem dX11_bestForSpade_62 : decode cX11_bestForSpade 62 = .ok (.isub, 1) := by decide +kernel
theorem dX11_bestForSpade_63 : decode cX11_bestForSpade 63 = .ok (.istore 6, 2) := by decide +kernel
theorem dX11_bestForSpade_65 : decode cX11_bestForSpade 65 = .ok (.aload_n 0, 1) := by decide +kernel
theorem dX11_bestForSpade_66 : decode cX11_bestForSpade 66 = .ok (.getfield 60, 3) := by decide +kernel
theorem dX11_bestForSpade_69 : decode cX11_bestForSpade 69 = .ok (.iload_n 1, 1) := by decide +kernel
theorem dX11_bestForSpade_70 : decode cX11_bestForSpade 70 = .ok (.putfield 192, 3) := by decide +kernel
theorem dX11_bestForSpade_73 : decode cX11_bestForSpade 73 = .ok (.iload 6, 2) := by decide +kernel
theorem dX11_bestForSpade_75 : decode cX11_bestForSpade 75 = .ok (.iload_n 3, 1) := by decide +kernel
theorem dX11_bestForSpade_76 : decode cX11_bestForSpade 76 = .ok (.if_icmp .le 11, 3) := by decide +kernel
theorem dX11_bestForSpade_79 : decode cX11_bestForSpade 79 = .ok (.iload 6, 2) := by decide +kernel
theorem dX11_bestForSpade_81 : decode cX11_bestForSpade 81 = .ok (.istore_n 3, 1) := by decide +kernel
theorem dX11_bestForSpade_82 : decode cX11_bestForSpade 82 = .ok (.iconst 1, 1) := by decide +kernel
theorem dX11_bestForSpade_83 : decode cX11_bestForSpade 83 = .ok (.iload 4, 2) := by decide +kernel
theorem dX11_bestForSpade_85 : decode cX11_bestForSpade 85 = .ok (.ishl, 1) := by decide +kernel
theorem dX11_bestForSpade_86 : decode cX11_bestForSpade 86 = .ok (.istore_n 2, 1) := by decide +kernel
theorem dX11_bestForSpade_87 : decode cX11_bestForSpade 87 = .ok (.iinc 4 1, 3) := by decide +kernel
theorem dX11_bestForSpade_90 : decode cX11_bestForSpade 90 = .ok (.goto (-75), 3) := by decide +kernel
theorem dX11_bestForSpade_93 : decode cX11_bestForSpade 93 = .ok (.iload_n 2, 1) := by decide +kernel
theorem dX11_bestForSpade_94 : decode cX11_bestForSpade 94 = .ok (.ireturn, 1) := by decide +kernel
theorem dX11_sendDrawn_0 : decode cX11_sendDrawn 0 = .ok (.aload_n 0, 1) := by decide +kernel
theorem dX11_sendDrawn_1 : decode cX11_sendDrawn 1 = .ok (.getfield 33, 3) := by decide +kernel
theorem dX11_sendDrawn_4 : decode cX11_sendDrawn 4 = .ok (.getfield 134, 3) := by decide +kernel
theorem dX11_sendDrawn_7 : decode cX11_sendDrawn 7 = .ok (.ifCond .ne 4, 3) := by decide +kernel
theorem dX11_sendDrawn_10 : decode cX11_sendDrawn 10 = .ok (.return_, 1) := by decide +kernel
theorem dX11_sendDrawn_11 : decode cX11_sendDrawn 11 = .ok (.aload_n 0, 1) := by decide +kernel
theorem dX11_sendDrawn_12 : decode cX11_sendDrawn 12 = .ok (.getfield 106, 3) := by decide +kernel
theorem dX11_sendDrawn_15 : decode cX11_sendDrawn 15 = .ok (.aload_n 0, 1) := by decide +kernel
theorem dX11_sendDrawn_16 : decode cX11_sendDrawn 16 = .ok (.getfield 33, 3) := by decide +kernel
theorem dX11_sendDrawn_19 : decode cX11_sendDrawn 19 = .ok (.getfield 134, 3) := by decide +kernel
theorem dX11_sendDrawn_22 : decode cX11_sendDrawn 22 = .ok (.invokevirtual 374, 3) := by decide +kernel
theorem dX11_sendDrawn_25 : decode cX11_sendDrawn 25 = .ok (.istore_n 1, 1) := by decide +kernel
theorem dX11_sendDrawn_26 : decode cX11_sendDrawn 26 = .ok (.aload_n 0, 1) := by decide +kernel
theorem dX11_sendDrawn_27 : decode cX11_sendDrawn 27 = .ok (.getfield 106, 3) := by decide +kernel
theorem dX11_sendDrawn_30 : decode cX11_sendDrawn 30 = .ok (.aload_n 0, 1) := by decide +kernel
theorem dX11_sendDrawn_31 : decode cX11_sendDrawn 31 = .ok (.getfield 26, 3) := by decide +kernel
theorem dX11_sendDrawn_34 : decode cX11_sendDrawn 34 = .ok (.getfield 131, 3) := by decide +kernel
theorem dX11_sendDrawn_37 : decode cX11_sendDrawn 37 = .ok (.invokevirtual 374, 3) := by decide +kernel
theorem dX11_sendDrawn_40 : decode cX11_sendDrawn 40 = .ok (.istore_n 2, 1) := by decide +kernel
theorem dX11_sendDrawn_41 : decode cX11_sendDrawn 41 = .ok (.aload_n 0, 1) := by decide +kernel
theorem dX11_sendDrawn_42 : decode cX11_sendDrawn 42 = .ok (.getfield 33, 3) := by decide +kernel
theorem dX11_sendDrawn_45 : decode cX11_sendDrawn 45 = .ok (.iload_n 1, 1) := by decide +kernel
theorem dX11_sendDrawn_46 : decode cX11_sendDrawn 46 = .ok (.invokevirtual 177, 3) := by decide +kernel
theorem dX11_sendDrawn_49 : decode cX11_sendDrawn 49 = .ok (.ifCond .eq 36, 3) := by decide +kernel
theorem dX11_sendDrawn_52 : decode cX11_sendDrawn 52 = .ok (.aload_n 0, 1) := by decide +kernel
theorem dX11_sendDrawn_53 : decode cX11_sendDrawn 53 = .ok (.getfield 26, 3) := by decide +kernel
theorem dX11_sendDrawn_56 : decode cX11_sendDrawn 56 = .ok (.iload_n 2, 1) := by decide +kernel
