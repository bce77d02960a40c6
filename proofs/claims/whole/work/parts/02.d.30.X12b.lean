theorem dX12_spellGoes_116 : decode cX12_spellGoes 116 = .ok (.iadd, 1) := by decide +kernel
theorem dX12_spellGoes_117 : decode cX12_spellGoes 117 = .ok (.istore_n 3, 1) := by decide +kernel
theorem dX12_spellGoes_118 : decode cX12_spellGoes 118 = .ok (.aload_n 1, 1) := by decide +kernel
theorem dX12_spellGoes_119 : decode cX12_spellGoes 119 = .ok (.iload_n 3, 1) := by decide +kernel
theorem dX12_spellGoes_120 : decode cX12_spellGoes 120 = .ok (.iconst 0, 1) := by decide +kernel
theorem dX12_spellGoes_121 : decode cX12_spellGoes 121 = .ok (.iadd, 1) := by decide +kernel
theorem dX12_spellGoes_122 : decode cX12_spellGoes 122 = .ok (.iaload, 1) := by decide +kernel
theorem dX12_spellGoes_123 : decode cX12_spellGoes 123 = .ok (.ifCond .lt 45, 3) := by decide +kernel
theorem dX12_spellGoes_126 : decode cX12_spellGoes 126 = .ok (.aload_n 1, 1) := by decide +kernel
theorem dX12_spellGoes_127 : decode cX12_spellGoes 127 = .ok (.iload_n 3, 1) := by decide +kernel
theorem dX12_spellGoes_128 : decode cX12_spellGoes 128 = .ok (.iconst 1, 1) := by decide +kernel
theorem dX12_spellGoes_129 : decode cX12_spellGoes 129 = .ok (.iadd, 1) := by decide +kernel
theorem dX12_spellGoes_130 : decode cX12_spellGoes 130 = .ok (.iconst 0, 1) := by decide +kernel
theorem dX12_spellGoes_131 : decode cX12_spellGoes 131 = .ok (.aload_n 1, 1) := by decide +kernel
theorem dX12_spellGoes_132 : decode cX12_spellGoes 132 = .ok (.iload_n 3, 1) := by decide +kernel
theorem dX12_spellGoes_133 : decode cX12_spellGoes 133 = .ok (.iconst 1, 1) := by decide +kernel
theorem dX12_spellGoes_134 : decode cX12_spellGoes 134 = .ok (.iadd, 1) := by decide +kernel
theorem dX12_spellGoes_135 : decode cX12_spellGoes 135 = .ok (.iaload, 1) := by decide +kernel
theorem dX12_spellGoes_136 : decode cX12_spellGoes 136 = .ok (.iconst 1, 1) := by decide +kernel
theorem dX12_spellGoes_137 : decode cX12_spellGoes 137 = .ok (.isub, 1) := by decide +kernel
theorem dX12_spellGoes_138 : decode cX12_spellGoes 138 = .ok (.invokestatic 259, 3) := by decide +kernel
theorem dX12_spellGoes_141 : decode cX12_spellGoes 141 = .ok (.iastore, 1) := by decide +kernel
theorem dX12_spellGoes_142 : decode cX12_spellGoes 142 = .ok (.aload_n 1, 1) := by decide +kernel
theorem dX12_spellGoes_143 : decode cX12_spellGoes 143 = .ok (.iload_n 3, 1) := by decide +kernel
theorem dX12_spellGoes_144 : decode cX12_spellGoes 144 = .ok (.iconst 1, 1) := by decide +kernel
theorem dX12_spellGoes_145 : decode cX12_spellGoes 145 = .ok (.iadd, 1) := by decide +kernel
theorem dX12_spellGoes_146 : decode cX12_spellGoes 146 = .ok (.iaload, 1) := by decide +kernel
theorem dX12_spellGoes_147 : decode cX12_spellGoes 147 = .ok (.ifCond .ne 21, 3) := by decide +kernel
theorem dX12_spellGoes_150 : decode cX12_spellGoes 150 = .ok (.aload_n 0, 1) := by decide +kernel
theorem dX12_spellGoes_151 : decode cX12_spellGoes 151 = .ok (.dup, 1) := by decide +kernel
theorem dX12_spellGoes_152 : decode cX12_spellGoes 152 = .ok (.getfield 309, 3) := by decide +kernel
theorem dX12_spellGoes_155 : decode cX12_spellGoes 155 = .ok (.iconst 1, 1) := by decide +kernel
theorem dX12_spellGoes_156 : decode cX12_spellGoes 156 = .ok (.iload_n 2, 1) := by decide +kernel
theorem dX12_spellGoes_157 : decode cX12_spellGoes 157 = .ok (.ishl, 1) := by decide +kernel
theorem dX12_spellGoes_158 : decode cX12_spellGoes 158 = .ok (.ior, 1) := by decide +kernel
theorem dX12_spellGoes_159 : decode cX12_spellGoes 159 = .ok (.putfield 309, 3) := by decide +kernel
theorem dX12_spellGoes_162 : decode cX12_spellGoes 162 = .ok (.aload_n 1, 1) := by decide +kernel
theorem dX12_spellGoes_163 : decode cX12_spellGoes 163 = .ok (.iload_n 3, 1) := by decide +kernel
theorem dX12_spellGoes_164 : decode cX12_spellGoes 164 = .ok (.iconst 0, 1) := by decide +kernel
theorem dX12_spellGoes_165 : decode cX12_spellGoes 165 = .ok (.iadd, 1) := by decide +kernel
theorem dX12_spellGoes_166 : decode cX12_spellGoes 166 = .ok (.iconst (-1), 1) := by decide +kernel
theorem dX12_spellGoes_167 : decode cX12_spellGoes 167 = .ok (.iastore, 1) := by decide +kernel
theorem dX12_spellGoes_168 : decode cX12_spellGoes 168 = .ok (.iinc 2 1, 3) := by decide +kernel
theorem dX12_spellGoes_171 : decode cX12_spellGoes 171 = .ok (.goto (-68), 3) := by decide +kernel
theorem dX12_spellGoes_174 : decode cX12_spellGoes 174 = .ok (.return_, 1) := by decide +kernel
theorem dX12_builds_0 : decode cX12_builds 0 = .ok (.iconst 0, 1) := by decide +kernel
theorem dX12_builds_1 : decode cX12_builds 1 = .ok (.istore_n 3, 1) := by decide +kernel
theorem dX12_builds_2 : decode cX12_builds 2 = .ok (.iload_n 3, 1) := by decide +kernel
theorem dX12_builds_3 : decode cX12_builds 3 = .ok (.iload_n 2, 1) := by decide +kernel
theorem dX12_builds_4 : decode cX12_builds 4 = .ok (.if_icmp .ge 14, 3) := by decide +kernel
theorem dX12_builds_7 : decode cX12_builds 7 = .ok (.aload_n 0, 1) := by decide +kernel
theorem dX12_builds_8 : decode cX12_builds 8 = .ok (.aload_n 1, 1) := by decide +kernel
theorem dX12_builds_9 : decode cX12_builds 9 = .ok (.invokevirtual 312, 3) := by decide +kernel
theorem dX12_builds_12 : decode cX12_builds 12 = .ok (.iinc 3 1, 3) := by decide +kernel
theorem dX12_builds_15 : decode cX12_builds 15 = .ok (.goto (-13), 3) := by decide +kernel
theorem dX12_builds_18 : decode cX12_builds 18 = .ok (.return_, 1) := by decide +kernel
theorem dX12_lowBy_0 : decode cX12_lowBy 0 = .ok (.iconst 0, 1) := by decide +kernel
theorem dX12_lowBy_1 : decode cX12_lowBy 1 = .ok (.istore_n 3, 1) := by decide +kernel
theorem dX12_lowBy_2 : decode cX12_lowBy 2 = .ok (.iconst 0, 1) := by decide +kernel
theorem dX12_lowBy_3 : decode cX12_lowBy 3 = .ok (.istore 4, 2) := by decide +kernel
theorem dX12_lowBy_5 : decode cX12_lowBy 5 = .ok (.iload 4, 2) := by decide +kernel
theorem dX12_lowBy_7 : decode cX12_lowBy 7 = .ok (.aload_n 0, 1) := by decide +kernel
theorem dX12_lowBy_8 : decode cX12_lowBy 8 = .ok (.getfield 13, 3) := by decide +kernel
theorem dX12_lowBy_11 : decode cX12_lowBy 11 = .ok (.if_icmp .ge 31, 3) := by decide +kernel
theorem dX12_lowBy_14 : decode cX12_lowBy 14 = .ok (.iload_n 3, 1) := by decide +kernel
theorem dX12_lowBy_15 : decode cX12_lowBy 15 = .ok (.aload_n 0, 1) := by decide +kernel
theorem dX12_lowBy_16 : decode cX12_lowBy 16 = .ok (.aload_n 1, 1) := by decide +kernel
theorem dX12_lowBy_17 : decode cX12_lowBy 17 = .ok (.iload 4, 2) := by decide +kernel
theorem dX12_lowBy_19 : decode cX12_lowBy 19 = .ok (.invokevirtual 291, 3) := by decide +kernel
theorem dX12_lowBy_22 : decode cX12_lowBy 22 = .ok (.iload_n 2, 1) := by decide +kernel
theorem dX12_lowBy_23 : decode cX12_lowBy 23 = .ok (.if_icmp .ge 10, 3) := by decide +kernel
theorem dX12_lowBy_26 : decode cX12_lowBy 26 = .ok (.iconst 1, 1) := by decide +kernel
theorem dX12_lowBy_27 : decode cX12_lowBy 27 = .ok (.iload 4, 2) := by decide +kernel
theorem dX12_lowBy_29 : decode cX12_lowBy 29 = .ok (.ishl, 1) := by decide +kernel
theorem dX12_lowBy_30 : decode cX12_lowBy 30 = .ok (.goto 4, 3) := by decide +kernel
theorem dX12_lowBy_33 : decode cX12_lowBy 33 = .ok (.iconst 0, 1) := by decide +kernel
theorem dX12_lowBy_34 : decode cX12_lowBy 34 = .ok (.ior, 1) := by decide +kernel
theorem dX12_lowBy_35 : decode cX12_lowBy 35 = .ok (.istore_n 3, 1) := by decide +kernel
theorem dX12_lowBy_36 : decode cX12_lowBy 36 = .ok (.iinc 4 1, 3) := by decide +kernel
theorem dX12_lowBy_39 : decode cX12_lowBy 39 = .ok (.goto (-34), 3) := by decide +kernel
theorem dX12_lowBy_42 : decode cX12_lowBy 42 = .ok (.iload_n 3, 1) := by decide +kernel
theorem dX12_lowBy_43 : decode cX12_lowBy 43 = .ok (.ireturn, 1) := by decide +kernel
theorem dX12_waterGoes_0 : decode cX12_waterGoes 0 = .ok (.iconst 1, 1) := by decide +kernel
theorem dX12_waterGoes_1 : decode cX12_waterGoes 1 = .ok (.istore_n 2, 1) := by decide +kernel
theorem dX12_waterGoes_2 : decode cX12_waterGoes 2 = .ok (.iload_n 2, 1) := by decide +kernel
theorem dX12_waterGoes_3 : decode cX12_waterGoes 3 = .ok (.ifCond .eq 97, 3) := by decide +kernel
theorem dX12_waterGoes_6 : decode cX12_waterGoes 6 = .ok (.iconst 0, 1) := by decide +kernel
theorem dX12_waterGoes_7 : decode cX12_waterGoes 7 = .ok (.istore_n 2, 1) := by decide +kernel
theorem dX12_waterGoes_8 : decode cX12_waterGoes 8 = .ok (.iconst 0, 1) := by decide +kernel
theorem dX12_waterGoes_9 : decode cX12_waterGoes 9 = .ok (.istore_n 3, 1) := by decide +kernel
theorem dX12_waterGoes_10 : decode cX12_waterGoes 10 = .ok (.iload_n 3, 1) := by decide +kernel
theorem dX12_waterGoes_11 : decode cX12_waterGoes 11 = .ok (.iconst 1, 1) := by decide +kernel
theorem dX12_waterGoes_12 : decode cX12_waterGoes 12 = .ok (.iadd, 1) := by decide +kernel
theorem dX12_waterGoes_13 : decode cX12_waterGoes 13 = .ok (.aload_n 0, 1) := by decide +kernel
theorem dX12_waterGoes_14 : decode cX12_waterGoes 14 = .ok (.getfield 13, 3) := by decide +kernel
theorem dX12_waterGoes_17 : decode cX12_waterGoes 17 = .ok (.if_icmp .ge 80, 3) := by decide +kernel
theorem dX12_waterGoes_20 : decode cX12_waterGoes 20 = .ok (.bipush 13, 2) := by decide +kernel
theorem dX12_waterGoes_22 : decode cX12_waterGoes 22 = .ok (.iload_n 3, 1) := by decide +kernel
theorem dX12_waterGoes_23 : decode cX12_waterGoes 23 = .ok (.iadd, 1) := by decide +kernel
theorem dX12_waterGoes_24 : decode cX12_waterGoes 24 = .ok (.istore 4, 2) := by decide +kernel
theorem dX12_waterGoes_26 : decode cX12_waterGoes 26 = .ok (.aload_n 1, 1) := by decide +kernel
theorem dX12_waterGoes_27 : decode cX12_waterGoes 27 = .ok (.iload 4, 2) := by decide +kernel
theorem dX12_waterGoes_29 : decode cX12_waterGoes 29 = .ok (.iaload, 1) := by decide +kernel
theorem dX12_waterGoes_30 : decode cX12_waterGoes 30 = .ok (.aload_n 1, 1) := by decide +kernel
theorem dX12_waterGoes_31 : decode cX12_waterGoes 31 = .ok (.iload 4, 2) := by decide +kernel
theorem dX12_waterGoes_33 : decode cX12_waterGoes 33 = .ok (.iconst 1, 1) := by decide +kernel
theorem dX12_waterGoes_34 : decode cX12_waterGoes 34 = .ok (.iadd, 1) := by decide +kernel
theorem dX12_waterGoes_35 : decode cX12_waterGoes 35 = .ok (.iaload, 1) := by decide +kernel
theorem dX12_waterGoes_36 : decode cX12_waterGoes 36 = .ok (.invokestatic 259, 3) := by decide +kernel
theorem dX12_waterGoes_39 : decode cX12_waterGoes 39 = .ok (.aload_n 0, 1) := by decide +kernel
theorem dX12_waterGoes_40 : decode cX12_waterGoes 40 = .ok (.getfield 21, 3) := by decide +kernel
theorem dX12_waterGoes_43 : decode cX12_waterGoes 43 = .ok (.iload_n 3, 1) := by decide +kernel
theorem dX12_waterGoes_44 : decode cX12_waterGoes 44 = .ok (.iaload, 1) := by decide +kernel
theorem dX12_waterGoes_45 : decode cX12_waterGoes 45 = .ok (.isub, 1) := by decide +kernel
theorem dX12_waterGoes_46 : decode cX12_waterGoes 46 = .ok (.iconst 1, 1) := by decide +kernel
theorem dX12_waterGoes_47 : decode cX12_waterGoes 47 = .ok (.isub, 1) := by decide +kernel
theorem dX12_waterGoes_48 : decode cX12_waterGoes 48 = .ok (.istore 5, 2) := by decide +kernel
theorem dX12_waterGoes_50 : decode cX12_waterGoes 50 = .ok (.aload_n 1, 1) := by decide +kernel
theorem dX12_waterGoes_51 : decode cX12_waterGoes 51 = .ok (.iload 4, 2) := by decide +kernel
theorem dX12_waterGoes_53 : decode cX12_waterGoes 53 = .ok (.iaload, 1) := by decide +kernel
theorem dX12_waterGoes_54 : decode cX12_waterGoes 54 = .ok (.aload_n 1, 1) := by decide +kernel
theorem dX12_waterGoes_55 : decode cX12_waterGoes 55 = .ok (.iload 4, 2) := by decide +kernel
theorem dX12_waterGoes_57 : decode cX12_waterGoes 57 = .ok (.iconst 1, 1) := by decide +kernel
theorem dX12_waterGoes_58 : decode cX12_waterGoes 58 = .ok (.iadd, 1) := by decide +kernel
theorem dX12_waterGoes_59 : decode cX12_waterGoes 59 = .ok (.iaload, 1) := by decide +kernel
theorem dX12_waterGoes_60 : decode cX12_waterGoes 60 = .ok (.if_icmp .ge 8, 3) := by decide +kernel
theorem dX12_waterGoes_63 : decode cX12_waterGoes 63 = .ok (.iload 4, 2) := by decide +kernel
theorem dX12_waterGoes_65 : decode cX12_waterGoes 65 = .ok (.goto 7, 3) := by decide +kernel
theorem dX12_waterGoes_68 : decode cX12_waterGoes 68 = .ok (.iload 4, 2) := by decide +kernel
theorem dX12_waterGoes_70 : decode cX12_waterGoes 70 = .ok (.iconst 1, 1) := by decide +kernel
theorem dX12_waterGoes_71 : decode cX12_waterGoes 71 = .ok (.iadd, 1) := by decide +kernel
theorem dX12_waterGoes_72 : decode cX12_waterGoes 72 = .ok (.istore 6, 2) := by decide +kernel
theorem dX12_waterGoes_74 : decode cX12_waterGoes 74 = .ok (.iload 5, 2) := by decide +kernel
theorem dX12_waterGoes_76 : decode cX12_waterGoes 76 = .ok (.aload_n 1, 1) := by decide +kernel
theorem dX12_waterGoes_77 : decode cX12_waterGoes 77 = .ok (.iload 6, 2) := by decide +kernel
theorem dX12_waterGoes_79 : decode cX12_waterGoes 79 = .ok (.iaload, 1) := by decide +kernel
theorem dX12_waterGoes_80 : decode cX12_waterGoes 80 = .ok (.if_icmp .le 11, 3) := by decide +kernel
theorem dX12_waterGoes_83 : decode cX12_waterGoes 83 = .ok (.aload_n 1, 1) := by decide +kernel
theorem dX12_waterGoes_84 : decode cX12_waterGoes 84 = .ok (.iload 6, 2) := by decide +kernel
theorem dX12_waterGoes_86 : decode cX12_waterGoes 86 = .ok (.iload 5, 2) := by decide +kernel
theorem dX12_waterGoes_88 : decode cX12_waterGoes 88 = .ok (.iastore, 1) := by decide +kernel
theorem dX12_waterGoes_89 : decode cX12_waterGoes 89 = .ok (.iconst 1, 1) := by decide +kernel
theorem dX12_waterGoes_90 : decode cX12_waterGoes 90 = .ok (.istore_n 2, 1) := by decide +kernel
theorem dX12_waterGoes_91 : decode cX12_waterGoes 91 = .ok (.iinc 3 1, 3) := by decide +kernel
theorem dX12_waterGoes_94 : decode cX12_waterGoes 94 = .ok (.goto (-84), 3) := by decide +kernel
theorem dX12_waterGoes_97 : decode cX12_waterGoes 97 = .ok (.goto (-95), 3) := by decide +kernel
theorem dX12_waterGoes_100 : decode cX12_waterGoes 100 = .ok (.return_, 1) := by decide +kernel
theorem dX12_tideComes_0 : decode cX12_tideComes 0 = .ok (.aload_n 0, 1) := by decide +kernel
theorem dX12_tideComes_1 : decode cX12_tideComes 1 = .ok (.aload_n 0, 1) := by decide +kernel
theorem dX12_tideComes_2 : decode cX12_tideComes 2 = .ok (.aload_n 1, 1) := by decide +kernel
theorem dX12_tideComes_3 : decode cX12_tideComes 3 = .ok (.aload_n 1, 1) := by decide +kernel
theorem dX12_tideComes_4 : decode cX12_tideComes 4 = .ok (.bipush 42, 2) := by decide +kernel
theorem dX12_tideComes_6 : decode cX12_tideComes 6 = .ok (.iaload, 1) := by decide +kernel
theorem dX12_tideComes_7 : decode cX12_tideComes 7 = .ok (.invokevirtual 316, 3) := by decide +kernel
theorem dX12_tideComes_10 : decode cX12_tideComes 10 = .ok (.putfield 319, 3) := by decide +kernel
theorem dX12_tideComes_13 : decode cX12_tideComes 13 = .ok (.aload_n 0, 1) := by decide +kernel
theorem dX12_tideComes_14 : decode cX12_tideComes 14 = .ok (.aload_n 1, 1) := by decide +kernel
theorem dX12_tideComes_15 : decode cX12_tideComes 15 = .ok (.aload_n 0, 1) := by decide +kernel
theorem dX12_tideComes_16 : decode cX12_tideComes 16 = .ok (.getfield 319, 3) := by decide +kernel
theorem dX12_tideComes_19 : decode cX12_tideComes 19 = .ok (.invokevirtual 322, 3) := by decide +kernel
theorem dX12_tideComes_22 : decode cX12_tideComes 22 = .ok (.istore_n 2, 1) := by decide +kernel
theorem dX12_tideComes_23 : decode cX12_tideComes 23 = .ok (.iconst 0, 1) := by decide +kernel
theorem dX12_tideComes_24 : decode cX12_tideComes 24 = .ok (.istore_n 3, 1) := by decide +kernel
theorem dX12_tideComes_25 : decode cX12_tideComes 25 = .ok (.iload_n 3, 1) := by decide +kernel
theorem dX12_tideComes_26 : decode cX12_tideComes 26 = .ok (.aload_n 0, 1) := by decide +kernel
theorem dX12_tideComes_27 : decode cX12_tideComes 27 = .ok (.getfield 13, 3) := by decide +kernel
theorem dX12_tideComes_30 : decode cX12_tideComes 30 = .ok (.if_icmp .ge 108, 3) := by decide +kernel
theorem dX12_tideComes_33 : decode cX12_tideComes 33 = .ok (.iload_n 2, 1) := by decide +kernel
theorem dX12_tideComes_34 : decode cX12_tideComes 34 = .ok (.iload_n 3, 1) := by decide +kernel
theorem dX12_tideComes_35 : decode cX12_tideComes 35 = .ok (.invokestatic 269, 3) := by decide +kernel
theorem dX12_tideComes_38 : decode cX12_tideComes 38 = .ok (.ifCond .eq 43, 3) := by decide +kernel
theorem dX12_tideComes_41 : decode cX12_tideComes 41 = .ok (.aload_n 1, 1) := by decide +kernel
theorem dX12_tideComes_42 : decode cX12_tideComes 42 = .ok (.bipush 13, 2) := by decide +kernel
theorem dX12_tideComes_44 : decode cX12_tideComes 44 = .ok (.iload_n 3, 1) := by decide +kernel
theorem dX12_tideComes_45 : decode cX12_tideComes 45 = .ok (.iadd, 1) := by decide +kernel
theorem dX12_tideComes_46 : decode cX12_tideComes 46 = .ok (.sipush 999, 3) := by decide +kernel
theorem dX12_tideComes_49 : decode cX12_tideComes 49 = .ok (.aload_n 1, 1) := by decide +kernel
theorem dX12_tideComes_50 : decode cX12_tideComes 50 = .ok (.bipush 13, 2) := by decide +kernel
theorem dX12_tideComes_52 : decode cX12_tideComes 52 = .ok (.iload_n 3, 1) := by decide +kernel
theorem dX12_tideComes_53 : decode cX12_tideComes 53 = .ok (.iadd, 1) := by decide +kernel
theorem dX12_tideComes_54 : decode cX12_tideComes 54 = .ok (.iaload, 1) := by decide +kernel
theorem dX12_tideComes_55 : decode cX12_tideComes 55 = .ok (.aload_n 0, 1) := by decide +kernel
theorem dX12_tideComes_56 : decode cX12_tideComes 56 = .ok (.getfield 319, 3) := by decide +kernel
theorem dX12_tideComes_59 : decode cX12_tideComes 59 = .ok (.iadd, 1) := by decide +kernel
theorem dX12_tideComes_60 : decode cX12_tideComes 60 = .ok (.aload_n 0, 1) := by decide +kernel
theorem dX12_tideComes_61 : decode cX12_tideComes 61 = .ok (.aload_n 1, 1) := by decide +kernel
theorem dX12_tideComes_62 : decode cX12_tideComes 62 = .ok (.iload_n 3, 1) := by decide +kernel
theorem dX12_tideComes_63 : decode cX12_tideComes 63 = .ok (.invokevirtual 291, 3) := by decide +kernel
theorem dX12_tideComes_66 : decode cX12_tideComes 66 = .ok (.isub, 1) := by decide +kernel
theorem dX12_tideComes_67 : decode cX12_tideComes 67 = .ok (.invokestatic 142, 3) := by decide +kernel
theorem dX12_tideComes_70 : decode cX12_tideComes 70 = .ok (.iastore, 1) := by decide +kernel
theorem dX12_tideComes_71 : decode cX12_tideComes 71 = .ok (.aload_n 1, 1) := by decide +kernel
theorem dX12_tideComes_72 : decode cX12_tideComes 72 = .ok (.iload_n 3, 1) := by decide +kernel
theorem dX12_tideComes_73 : decode cX12_tideComes 73 = .ok (.dup2, 1) := by decide +kernel
theorem dX12_tideComes_74 : decode cX12_tideComes 74 = .ok (.iaload, 1) := by decide +kernel
theorem dX12_tideComes_75 : decode cX12_tideComes 75 = .ok (.iconst 2, 1) := by decide +kernel
theorem dX12_tideComes_76 : decode cX12_tideComes 76 = .ok (.idiv, 1) := by decide +kernel
theorem dX12_tideComes_77 : decode cX12_tideComes 77 = .ok (.iastore, 1) := by decide +kernel
theorem dX12_tideComes_78 : decode cX12_tideComes 78 = .ok (.goto 54, 3) := by decide +kernel
theorem dX12_tideComes_81 : decode cX12_tideComes 81 = .ok (.iconst 0, 1) := by decide +kernel
theorem dX12_tideComes_82 : decode cX12_tideComes 82 = .ok (.aload_n 0, 1) := by decide +kernel
theorem dX12_tideComes_83 : decode cX12_tideComes 83 = .ok (.getfield 319, 3) := by decide +kernel
theorem dX12_tideComes_86 : decode cX12_tideComes 86 = .ok (.bipush 10, 2) := by decide +kernel
theorem dX12_tideComes_88 : decode cX12_tideComes 88 = .ok (.aload_n 0, 1) := by decide +kernel
theorem dX12_tideComes_89 : decode cX12_tideComes 89 = .ok (.getfield 17, 3) := by decide +kernel
theorem dX12_tideComes_92 : decode cX12_tideComes 92 = .ok (.iload_n 3, 1) := by decide +kernel
theorem dX12_tideComes_93 : decode cX12_tideComes 93 = .ok (.iaload, 1) := by decide +kernel
theorem dX12_tideComes_94 : decode cX12_tideComes 94 = .ok (.imul, 1) := by decide +kernel
theorem dX12_tideComes_95 : decode cX12_tideComes 95 = .ok (.isub, 1) := by decide +kernel
theorem dX12_tideComes_96 : decode cX12_tideComes 96 = .ok (.invokestatic 259, 3) := by decide +kernel
theorem dX12_tideComes_99 : decode cX12_tideComes 99 = .ok (.aload_n 1, 1) := by decide +kernel
theorem dX12_tideComes_100 : decode cX12_tideComes 100 = .ok (.bipush 12, 2) := by decide +kernel
theorem dX12_tideComes_102 : decode cX12_tideComes 102 = .ok (.iaload, 1) := by decide +kernel
theorem dX12_tideComes_103 : decode cX12_tideComes 103 = .ok (.iload_n 3, 1) := by decide +kernel
theorem dX12_tideComes_104 : decode cX12_tideComes 104 = .ok (.invokestatic 269, 3) := by decide +kernel
theorem dX12_tideComes_107 : decode cX12_tideComes 107 = .ok (.ifCond .eq 8, 3) := by decide +kernel
theorem dX12_tideComes_110 : decode cX12_tideComes 110 = .ok (.bipush 8, 2) := by decide +kernel
theorem dX12_tideComes_112 : decode cX12_tideComes 112 = .ok (.goto 4, 3) := by decide +kernel
theorem dX12_tideComes_115 : decode cX12_tideComes 115 = .ok (.iconst 4, 1) := by decide +kernel
theorem dX12_tideComes_116 : decode cX12_tideComes 116 = .ok (.idiv, 1) := by decide +kernel
theorem dX12_tideComes_117 : decode cX12_tideComes 117 = .ok (.istore 4, 2) := by decide +kernel
theorem dX12_tideComes_119 : decode cX12_tideComes 119 = .ok (.aload_n 1, 1) := by decide +kernel
theorem dX12_tideComes_120 : decode cX12_tideComes 120 = .ok (.iload_n 3, 1) := by decide +kernel
theorem dX12_tideComes_121 : decode cX12_tideComes 121 = .ok (.iconst 0, 1) := by decide +kernel
theorem dX12_tideComes_122 : decode cX12_tideComes 122 = .ok (.aload_n 1, 1) := by decide +kernel
theorem dX12_tideComes_123 : decode cX12_tideComes 123 = .ok (.iload_n 3, 1) := by decide +kernel
theorem dX12_tideComes_124 : decode cX12_tideComes 124 = .ok (.iaload, 1) := by decide +kernel
theorem dX12_tideComes_125 : decode cX12_tideComes 125 = .ok (.iload 4, 2) := by decide +kernel
theorem dX12_tideComes_127 : decode cX12_tideComes 127 = .ok (.isub, 1) := by decide +kernel
theorem dX12_tideComes_128 : decode cX12_tideComes 128 = .ok (.invokestatic 259, 3) := by decide +kernel
theorem dX12_tideComes_131 : decode cX12_tideComes 131 = .ok (.iastore, 1) := by decide +kernel
theorem dX12_tideComes_132 : decode cX12_tideComes 132 = .ok (.iinc 3 1, 3) := by decide +kernel
theorem dX12_tideComes_135 : decode cX12_tideComes 135 = .ok (.goto (-110), 3) := by decide +kernel
theorem dX12_tideComes_138 : decode cX12_tideComes 138 = .ok (.aload_n 1, 1) := by decide +kernel
theorem dX12_tideComes_139 : decode cX12_tideComes 139 = .ok (.bipush 12, 2) := by decide +kernel
theorem dX12_tideComes_141 : decode cX12_tideComes 141 = .ok (.dup2, 1) := by decide +kernel
theorem dX12_tideComes_142 : decode cX12_tideComes 142 = .ok (.iaload, 1) := by decide +kernel
theorem dX12_tideComes_143 : decode cX12_tideComes 143 = .ok (.iload_n 2, 1) := by decide +kernel
theorem dX12_tideComes_144 : decode cX12_tideComes 144 = .ok (.iconst (-1), 1) := by decide +kernel
theorem dX12_tideComes_145 : decode cX12_tideComes 145 = .ok (.ixor, 1) := by decide +kernel
theorem dX12_tideComes_146 : decode cX12_tideComes 146 = .ok (.iand, 1) := by decide +kernel
theorem dX12_tideComes_147 : decode cX12_tideComes 147 = .ok (.iastore, 1) := by decide +kernel
theorem dX12_tideComes_148 : decode cX12_tideComes 148 = .ok (.aload_n 0, 1) := by decide +kernel
theorem dX12_tideComes_149 : decode cX12_tideComes 149 = .ok (.aload_n 1, 1) := by decide +kernel
theorem dX12_tideComes_150 : decode cX12_tideComes 150 = .ok (.invokevirtual 325, 3) := by decide +kernel
theorem dX12_tideComes_153 : decode cX12_tideComes 153 = .ok (.aload_n 1, 1) := by decide +kernel
theorem dX12_tideComes_154 : decode cX12_tideComes 154 = .ok (.bipush 42, 2) := by decide +kernel
theorem dX12_tideComes_156 : decode cX12_tideComes 156 = .ok (.dup2, 1) := by decide +kernel
theorem dX12_tideComes_157 : decode cX12_tideComes 157 = .ok (.iaload, 1) := by decide +kernel
theorem dX12_tideComes_158 : decode cX12_tideComes 158 = .ok (.iconst 1, 1) := by decide +kernel
theorem dX12_tideComes_159 : decode cX12_tideComes 159 = .ok (.iadd, 1) := by decide +kernel
theorem dX12_tideComes_160 : decode cX12_tideComes 160 = .ok (.iastore, 1) := by decide +kernel
theorem dX12_tideComes_161 : decode cX12_tideComes 161 = .ok (.iload_n 2, 1) := by decide +kernel
theorem dX12_tideComes_162 : decode cX12_tideComes 162 = .ok (.ireturn, 1) := by decide +kernel
theorem dX12_goes_0 : decode cX12_goes 0 = .ok (.aload_n 0, 1) := by decide +kernel
theorem dX12_goes_1 : decode cX12_goes 1 = .ok (.iload_n 2, 1) := by decide +kernel
theorem dX12_goes_2 : decode cX12_goes 2 = .ok (.invokevirtual 294, 3) := by decide +kernel
theorem dX12_goes_5 : decode cX12_goes 5 = .ok (.ifCond .eq 11, 3) := by decide +kernel
theorem dX12_goes_8 : decode cX12_goes 8 = .ok (.aload_n 0, 1) := by decide +kernel
theorem dX12_goes_9 : decode cX12_goes 9 = .ok (.iload_n 3, 1) := by decide +kernel
theorem dX12_goes_10 : decode cX12_goes 10 = .ok (.invokevirtual 280, 3) := by decide +kernel
theorem dX12_goes_13 : decode cX12_goes 13 = .ok (.ifCond .ne 5, 3) := by decide +kernel
theorem dX12_goes_16 : decode cX12_goes 16 = .ok (.iconst (-1), 1) := by decide +kernel
theorem dX12_goes_17 : decode cX12_goes 17 = .ok (.ireturn, 1) := by decide +kernel
theorem dX12_goes_18 : decode cX12_goes 18 = .ok (.aload_n 1, 1) := by decide +kernel
theorem dX12_goes_19 : decode cX12_goes 19 = .ok (.iload_n 2, 1) := by decide +kernel
theorem dX12_goes_20 : decode cX12_goes 20 = .ok (.invokestatic 129, 3) := by decide +kernel
theorem dX12_goes_23 : decode cX12_goes 23 = .ok (.istore 4, 2) := by decide +kernel
theorem dX12_goes_25 : decode cX12_goes 25 = .ok (.aload_n 1, 1) := by decide +kernel
theorem dX12_goes_26 : decode cX12_goes 26 = .ok (.iload_n 2, 1) := by decide +kernel
theorem dX12_goes_27 : decode cX12_goes 27 = .ok (.invokestatic 277, 3) := by decide +kernel
theorem dX12_goes_30 : decode cX12_goes 30 = .ok (.ifCond .ne 6, 3) := by decide +kernel
theorem dX12_goes_33 : decode cX12_goes 33 = .ok (.bipush (-2), 2) := by decide +kernel
theorem dX12_goes_35 : decode cX12_goes 35 = .ok (.ireturn, 1) := by decide +kernel
theorem dX12_goes_36 : decode cX12_goes 36 = .ok (.iload 4, 2) := by decide +kernel
theorem dX12_goes_38 : decode cX12_goes 38 = .ok (.iload_n 3, 1) := by decide +kernel
theorem dX12_goes_39 : decode cX12_goes 39 = .ok (.if_icmp .ne 6, 3) := by decide +kernel
theorem dX12_goes_42 : decode cX12_goes 42 = .ok (.bipush (-3), 2) := by decide +kernel
theorem dX12_goes_44 : decode cX12_goes 44 = .ok (.ireturn, 1) := by decide +kernel
theorem dX12_goes_45 : decode cX12_goes 45 = .ok (.aload_n 1, 1) := by decide +kernel
theorem dX12_goes_46 : decode cX12_goes 46 = .ok (.bipush 25, 2) := by decide +kernel
theorem dX12_goes_48 : decode cX12_goes 48 = .ok (.iconst 2, 1) := by decide +kernel
theorem dX12_goes_49 : decode cX12_goes 49 = .ok (.iload_n 2, 1) := by decide +kernel
theorem dX12_goes_50 : decode cX12_goes 50 = .ok (.imul, 1) := by decide +kernel
theorem dX12_goes_51 : decode cX12_goes 51 = .ok (.iadd, 1) := by decide +kernel
theorem dX12_goes_52 : decode cX12_goes 52 = .ok (.iconst 0, 1) := by decide +kernel
theorem dX12_goes_53 : decode cX12_goes 53 = .ok (.iadd, 1) := by decide +kernel
theorem dX12_goes_54 : decode cX12_goes 54 = .ok (.iload_n 3, 1) := by decide +kernel
theorem dX12_goes_55 : decode cX12_goes 55 = .ok (.iastore, 1) := by decide +kernel
theorem dX12_goes_56 : decode cX12_goes 56 = .ok (.iload 4, 2) := by decide +kernel
theorem dX12_goes_58 : decode cX12_goes 58 = .ok (.iconst 1, 1) := by decide +kernel
theorem dX12_goes_59 : decode cX12_goes 59 = .ok (.iadd, 1) := by decide +kernel
theorem dX12_goes_60 : decode cX12_goes 60 = .ok (.ireturn, 1) := by decide +kernel
theorem dX12_goesHome_0 : decode cX12_goesHome 0 = .ok (.aload_n 0, 1) := by decide +kernel
theorem dX12_goesHome_1 : decode cX12_goesHome 1 = .ok (.iload_n 1, 1) := by decide +kernel
theorem dX12_goesHome_2 : decode cX12_goesHome 2 = .ok (.invokevirtual 294, 3) := by decide +kernel
theorem dX12_goesHome_5 : decode cX12_goesHome 5 = .ok (.ifCond .ne 5, 3) := by decide +kernel
theorem dX12_goesHome_8 : decode cX12_goesHome 8 = .ok (.iconst (-1), 1) := by decide +kernel
theorem dX12_goesHome_9 : decode cX12_goesHome 9 = .ok (.ireturn, 1) := by decide +kernel
theorem dX12_goesHome_10 : decode cX12_goesHome 10 = .ok (.aload_n 0, 1) := by decide +kernel
theorem dX12_goesHome_11 : decode cX12_goesHome 11 = .ok (.getfield 36, 3) := by decide +kernel
theorem dX12_goesHome_14 : decode cX12_goesHome 14 = .ok (.iload_n 1, 1) := by decide +kernel
theorem dX12_goesHome_15 : decode cX12_goesHome 15 = .ok (.invokestatic 129, 3) := by decide +kernel
theorem dX12_goesHome_18 : decode cX12_goesHome 18 = .ok (.istore_n 2, 1) := by decide +kernel
theorem dX12_goesHome_19 : decode cX12_goesHome 19 = .ok (.aload_n 0, 1) := by decide +kernel
theorem dX12_goesHome_20 : decode cX12_goesHome 20 = .ok (.getfield 36, 3) := by decide +kernel
theorem dX12_goesHome_23 : decode cX12_goesHome 23 = .ok (.bipush 25, 2) := by decide +kernel
theorem dX12_goesHome_25 : decode cX12_goesHome 25 = .ok (.iconst 2, 1) := by decide +kernel
theorem dX12_goesHome_26 : decode cX12_goesHome 26 = .ok (.iload_n 1, 1) := by decide +kernel
theorem dX12_goesHome_27 : decode cX12_goesHome 27 = .ok (.imul, 1) := by decide +kernel
theorem dX12_goesHome_28 : decode cX12_goesHome 28 = .ok (.iadd, 1) := by decide +kernel
theorem dX12_goesHome_29 : decode cX12_goesHome 29 = .ok (.iconst 0, 1) := by decide +kernel
theorem dX12_goesHome_30 : decode cX12_goesHome 30 = .ok (.iadd, 1) := by decide +kernel
theorem dX12_goesHome_31 : decode cX12_goesHome 31 = .ok (.iconst (-1), 1) := by decide +kernel
theorem dX12_goesHome_32 : decode cX12_goesHome 32 = .ok (.iastore, 1) := by decide +kernel
theorem dX12_goesHome_33 : decode cX12_goesHome 33 = .ok (.iload_n 2, 1) := by decide +kernel
theorem dX12_goesHome_34 : decode cX12_goesHome 34 = .ok (.ifCond .ge 8, 3) := by decide +kernel
theorem dX12_goesHome_37 : decode cX12_goesHome 37 = .ok (.bipush (-2), 2) := by decide +kernel
theorem dX12_goesHome_39 : decode cX12_goesHome 39 = .ok (.goto 4, 3) := by decide +kernel
theorem dX12_goesHome_42 : decode cX12_goesHome 42 = .ok (.iload_n 2, 1) := by decide +kernel
theorem dX12_goesHome_43 : decode cX12_goesHome 43 = .ok (.ireturn, 1) := by decide +kernel
theorem dX12_spadeFor_0 : decode cX12_spadeFor 0 = .ok (.aload_n 0, 1) := by decide +kernel
theorem dX12_spadeFor_1 : decode cX12_spadeFor 1 = .ok (.iload_n 1, 1) := by decide +kernel
theorem dX12_spadeFor_2 : decode cX12_spadeFor 2 = .ok (.invokevirtual 294, 3) := by decide +kernel
theorem dX12_spadeFor_5 : decode cX12_spadeFor 5 = .ok (.ifCond .ne 5, 3) := by decide +kernel
theorem dX12_spadeFor_8 : decode cX12_spadeFor 8 = .ok (.iconst (-1), 1) := by decide +kernel
theorem dX12_spadeFor_9 : decode cX12_spadeFor 9 = .ok (.ireturn, 1) := by decide +kernel
theorem dX12_spadeFor_10 : decode cX12_spadeFor 10 = .ok (.aload_n 0, 1) := by decide +kernel
theorem dX12_spadeFor_11 : decode cX12_spadeFor 11 = .ok (.getfield 36, 3) := by decide +kernel
theorem dX12_spadeFor_14 : decode cX12_spadeFor 14 = .ok (.bipush 41, 2) := by decide +kernel
theorem dX12_spadeFor_16 : decode cX12_spadeFor 16 = .ok (.iaload, 1) := by decide +kernel
theorem dX12_spadeFor_17 : decode cX12_spadeFor 17 = .ok (.iload_n 1, 1) := by decide +kernel
theorem dX12_spadeFor_18 : decode cX12_spadeFor 18 = .ok (.invokestatic 269, 3) := by decide +kernel
theorem dX12_spadeFor_21 : decode cX12_spadeFor 21 = .ok (.ifCond .ne 25, 3) := by decide +kernel
theorem dX12_spadeFor_24 : decode cX12_spadeFor 24 = .ok (.aload_n 0, 1) := by decide +kernel
theorem dX12_spadeFor_25 : decode cX12_spadeFor 25 = .ok (.getfield 36, 3) := by decide +kernel
theorem dX12_spadeFor_28 : decode cX12_spadeFor 28 = .ok (.bipush 41, 2) := by decide +kernel
theorem dX12_spadeFor_30 : decode cX12_spadeFor 30 = .ok (.iaload, 1) := by decide +kernel
theorem dX12_spadeFor_31 : decode cX12_spadeFor 31 = .ok (.invokestatic 251, 3) := by decide +kernel
theorem dX12_spadeFor_34 : decode cX12_spadeFor 34 = .ok (.aload_n 0, 1) := by decide +kernel
theorem dX12_spadeFor_35 : decode cX12_spadeFor 35 = .ok (.getfield 33, 3) := by decide +kernel
theorem dX12_spadeFor_38 : decode cX12_spadeFor 38 = .ok (.iconst 1, 1) := by decide +kernel
theorem dX12_spadeFor_39 : decode cX12_spadeFor 39 = .ok (.iaload, 1) := by decide +kernel
theorem dX12_spadeFor_40 : decode cX12_spadeFor 40 = .ok (.if_icmp .lt 6, 3) := by decide +kernel
theorem dX12_spadeFor_43 : decode cX12_spadeFor 43 = .ok (.bipush (-2), 2) := by decide +kernel
theorem dX12_spadeFor_45 : decode cX12_spadeFor 45 = .ok (.ireturn, 1) := by decide +kernel
theorem dX12_spadeFor_46 : decode cX12_spadeFor 46 = .ok (.aload_n 0, 1) := by decide +kernel
theorem dX12_spadeFor_47 : decode cX12_spadeFor 47 = .ok (.getfield 36, 3) := by decide +kernel
theorem dX12_spadeFor_50 : decode cX12_spadeFor 50 = .ok (.bipush 41, 2) := by decide +kernel
theorem dX12_spadeFor_52 : decode cX12_spadeFor 52 = .ok (.dup2, 1) := by decide +kernel
theorem dX12_spadeFor_53 : decode cX12_spadeFor 53 = .ok (.iaload, 1) := by decide +kernel
theorem dX12_spadeFor_54 : decode cX12_spadeFor 54 = .ok (.iconst 1, 1) := by decide +kernel
theorem dX12_spadeFor_55 : decode cX12_spadeFor 55 = .ok (.iload_n 1, 1) := by decide +kernel
theorem dX12_spadeFor_56 : decode cX12_spadeFor 56 = .ok (.ishl, 1) := by decide +kernel
theorem dX12_spadeFor_57 : decode cX12_spadeFor 57 = .ok (.ixor, 1) := by decide +kernel
theorem dX12_spadeFor_58 : decode cX12_spadeFor 58 = .ok (.iastore, 1) := by decide +kernel
theorem dX12_spadeFor_59 : decode cX12_spadeFor 59 = .ok (.aload_n 0, 1) := by decide +kernel
theorem dX12_spadeFor_60 : decode cX12_spadeFor 60 = .ok (.getfield 36, 3) := by decide +kernel
theorem dX12_spadeFor_63 : decode cX12_spadeFor 63 = .ok (.bipush 41, 2) := by decide +kernel
theorem dX12_spadeFor_65 : decode cX12_spadeFor 65 = .ok (.iaload, 1) := by decide +kernel
theorem dX12_spadeFor_66 : decode cX12_spadeFor 66 = .ok (.invokestatic 251, 3) := by decide +kernel
theorem dX12_spadeFor_69 : decode cX12_spadeFor 69 = .ok (.ireturn, 1) := by decide +kernel
theorem dX12_treatsOne_0 : decode cX12_treatsOne 0 = .ok (.aload_n 0, 1) := by decide +kernel
theorem dX12_treatsOne_1 : decode cX12_treatsOne 1 = .ok (.iload_n 1, 1) := by decide +kernel
theorem dX12_treatsOne_2 : decode cX12_treatsOne 2 = .ok (.invokevirtual 294, 3) := by decide +kernel
theorem dX12_treatsOne_5 : decode cX12_treatsOne 5 = .ok (.ifCond .ne 5, 3) := by decide +kernel
theorem dX12_treatsOne_8 : decode cX12_treatsOne 8 = .ok (.iconst (-1), 1) := by decide +kernel
theorem dX12_treatsOne_9 : decode cX12_treatsOne 9 = .ok (.ireturn, 1) := by decide +kernel
theorem dX12_treatsOne_10 : decode cX12_treatsOne 10 = .ok (.aload_n 0, 1) := by decide +kernel
theorem dX12_treatsOne_11 : decode cX12_treatsOne 11 = .ok (.getfield 36, 3) := by decide +kernel
theorem dX12_treatsOne_14 : decode cX12_treatsOne 14 = .ok (.bipush 25, 2) := by decide +kernel
theorem dX12_treatsOne_16 : decode cX12_treatsOne 16 = .ok (.iconst 2, 1) := by decide +kernel
theorem dX12_treatsOne_17 : decode cX12_treatsOne 17 = .ok (.iload_n 1, 1) := by decide +kernel
theorem dX12_treatsOne_18 : decode cX12_treatsOne 18 = .ok (.imul, 1) := by decide +kernel
theorem dX12_treatsOne_19 : decode cX12_treatsOne 19 = .ok (.iadd, 1) := by decide +kernel
theorem dX12_treatsOne_20 : decode cX12_treatsOne 20 = .ok (.iconst 1, 1) := by decide +kernel
theorem dX12_treatsOne_21 : decode cX12_treatsOne 21 = .ok (.iadd, 1) := by decide +kernel
theorem dX12_treatsOne_22 : decode cX12_treatsOne 22 = .ok (.bipush 9, 2) := by decide +kernel
theorem dX12_treatsOne_24 : decode cX12_treatsOne 24 = .ok (.aload_n 0, 1) := by decide +kernel
theorem dX12_treatsOne_25 : decode cX12_treatsOne 25 = .ok (.getfield 36, 3) := by decide +kernel
theorem dX12_treatsOne_28 : decode cX12_treatsOne 28 = .ok (.iload_n 1, 1) := by decide +kernel
theorem dX12_treatsOne_29 : decode cX12_treatsOne 29 = .ok (.invokestatic 277, 3) := by decide +kernel
theorem dX12_treatsOne_32 : decode cX12_treatsOne 32 = .ok (.iconst 3, 1) := by decide +kernel
theorem dX12_treatsOne_33 : decode cX12_treatsOne 33 = .ok (.iadd, 1) := by decide +kernel
theorem dX12_treatsOne_34 : decode cX12_treatsOne 34 = .ok (.invokestatic 142, 3) := by decide +kernel
theorem dX12_treatsOne_37 : decode cX12_treatsOne 37 = .ok (.iastore, 1) := by decide +kernel
theorem dX12_treatsOne_38 : decode cX12_treatsOne 38 = .ok (.aload_n 0, 1) := by decide +kernel
theorem dX12_treatsOne_39 : decode cX12_treatsOne 39 = .ok (.getfield 36, 3) := by decide +kernel
theorem dX12_treatsOne_42 : decode cX12_treatsOne 42 = .ok (.iload_n 1, 1) := by decide +kernel
theorem dX12_treatsOne_43 : decode cX12_treatsOne 43 = .ok (.invokestatic 277, 3) := by decide +kernel
theorem dX12_treatsOne_46 : decode cX12_treatsOne 46 = .ok (.ireturn, 1) := by decide +kernel
theorem dX12_digs_0 : decode cX12_digs 0 = .ok (.aload_n 0, 1) := by decide +kernel
theorem dX12_digs_1 : decode cX12_digs 1 = .ok (.iload_n 1, 1) := by decide +kernel
theorem dX12_digs_2 : decode cX12_digs 2 = .ok (.invokevirtual 280, 3) := by decide +kernel
theorem dX12_digs_5 : decode cX12_digs 5 = .ok (.ifCond .ne 5, 3) := by decide +kernel
theorem dX12_digs_8 : decode cX12_digs 8 = .ok (.iconst (-1), 1) := by decide +kernel
theorem dX12_digs_9 : decode cX12_digs 9 = .ok (.ireturn, 1) := by decide +kernel
theorem dX12_digs_10 : decode cX12_digs 10 = .ok (.aload_n 0, 1) := by decide +kernel
theorem dX12_digs_11 : decode cX12_digs 11 = .ok (.getfield 36, 3) := by decide +kernel
theorem dX12_digs_14 : decode cX12_digs 14 = .ok (.bipush 12, 2) := by decide +kernel
theorem dX12_digs_16 : decode cX12_digs 16 = .ok (.dup2, 1) := by decide +kernel
theorem dX12_digs_17 : decode cX12_digs 17 = .ok (.iaload, 1) := by decide +kernel
theorem dX12_digs_18 : decode cX12_digs 18 = .ok (.iconst 1, 1) := by decide +kernel
theorem dX12_digs_19 : decode cX12_digs 19 = .ok (.iload_n 1, 1) := by decide +kernel
theorem dX12_digs_20 : decode cX12_digs 20 = .ok (.ishl, 1) := by decide +kernel
theorem dX12_digs_21 : decode cX12_digs 21 = .ok (.ixor, 1) := by decide +kernel
theorem dX12_digs_22 : decode cX12_digs 22 = .ok (.iastore, 1) := by decide +kernel
theorem dX12_digs_23 : decode cX12_digs 23 = .ok (.aload_n 0, 1) := by decide +kernel
theorem dX12_digs_24 : decode cX12_digs 24 = .ok (.getfield 36, 3) := by decide +kernel
theorem dX12_digs_27 : decode cX12_digs 27 = .ok (.bipush 12, 2) := by decide +kernel
theorem dX12_digs_29 : decode cX12_digs 29 = .ok (.iaload, 1) := by decide +kernel
theorem dX12_digs_30 : decode cX12_digs 30 = .ok (.invokestatic 251, 3) := by decide +kernel
theorem dX12_digs_33 : decode cX12_digs 33 = .ok (.ireturn, 1) := by decide +kernel
theorem dX12_go_0 : decode cX12_go 0 = .ok (.aload_n 0, 1) := by decide +kernel
theorem dX12_go_1 : decode cX12_go 1 = .ok (.iconst 0, 1) := by decide +kernel
theorem dX12_go_2 : decode cX12_go 2 = .ok (.putfield 112, 3) := by decide +kernel
theorem dX12_go_5 : decode cX12_go 5 = .ok (.aload_n 0, 1) := by decide +kernel
theorem dX12_go_6 : decode cX12_go 6 = .ok (.invokevirtual 328, 3) := by decide +kernel
theorem dX12_go_9 : decode cX12_go 9 = .ok (.aload_n 0, 1) := by decide +kernel
theorem dX12_go_10 : decode cX12_go 10 = .ok (.aload_n 0, 1) := by decide +kernel
theorem dX12_go_11 : decode cX12_go 11 = .ok (.aload_n 0, 1) := by decide +kernel
theorem dX12_go_12 : decode cX12_go 12 = .ok (.getfield 36, 3) := by decide +kernel
theorem dX12_go_15 : decode cX12_go 15 = .ok (.iload_n 1, 1) := by decide +kernel
theorem dX12_go_16 : decode cX12_go 16 = .ok (.iload_n 2, 1) := by decide +kernel
theorem dX12_go_17 : decode cX12_go 17 = .ok (.invokevirtual 331, 3) := by decide +kernel
theorem dX12_go_20 : decode cX12_go 20 = .ok (.invokevirtual 335, 3) := by decide +kernel
theorem dX12_go_23 : decode cX12_go 23 = .ok (.ireturn, 1) := by decide +kernel
theorem dX12_home_0 : decode cX12_home 0 = .ok (.aload_n 0, 1) := by decide +kernel
theorem dX12_home_1 : decode cX12_home 1 = .ok (.iconst 0, 1) := by decide +kernel
theorem dX12_home_2 : decode cX12_home 2 = .ok (.putfield 112, 3) := by decide +kernel
theorem dX12_home_5 : decode cX12_home 5 = .ok (.aload_n 0, 1) := by decide +kernel
theorem dX12_home_6 : decode cX12_home 6 = .ok (.invokevirtual 328, 3) := by decide +kernel
theorem dX12_home_9 : decode cX12_home 9 = .ok (.aload_n 0, 1) := by decide +kernel
theorem dX12_home_10 : decode cX12_home 10 = .ok (.aload_n 0, 1) := by decide +kernel
theorem dX12_home_11 : decode cX12_home 11 = .ok (.iload_n 1, 1) := by decide +kernel
theorem dX12_home_12 : decode cX12_home 12 = .ok (.invokevirtual 338, 3) := by decide +kernel
theorem dX12_home_15 : decode cX12_home 15 = .ok (.invokevirtual 335, 3) := by decide +kernel
theorem dX12_home_18 : decode cX12_home 18 = .ok (.ireturn, 1) := by decide +kernel
theorem dX12_spade_0 : decode cX12_spade 0 = .ok (.aload_n 0, 1) := by decide +kernel
theorem dX12_spade_1 : decode cX12_spade 1 = .ok (.iconst 0, 1) := by decide +kernel
theorem dX12_spade_2 : decode cX12_spade 2 = .ok (.putfield 112, 3) := by decide +kernel
theorem dX12_spade_5 : decode cX12_spade 5 = .ok (.aload_n 0, 1) := by decide +kernel
theorem dX12_spade_6 : decode cX12_spade 6 = .ok (.invokevirtual 328, 3) := by decide +kernel
theorem dX12_spade_9 : decode cX12_spade 9 = .ok (.aload_n 0, 1) := by decide +kernel
theorem dX12_spade_10 : decode cX12_spade 10 = .ok (.aload_n 0, 1) := by decide +kernel
theorem dX12_spade_11 : decode cX12_spade 11 = .ok (.iload_n 1, 1) := by decide +kernel
theorem dX12_spade_12 : decode cX12_spade 12 = .ok (.invokevirtual 341, 3) := by decide +kernel
theorem dX12_spade_15 : decode cX12_spade 15 = .ok (.invokevirtual 335, 3) := by decide +kernel
theorem dX12_spade_18 : decode cX12_spade 18 = .ok (.ireturn, 1) := by decide +kernel
theorem dX12_treat_0 : decode cX12_treat 0 = .ok (.aload_n 0, 1) := by decide +kernel
theorem dX12_treat_1 : decode cX12_treat 1 = .ok (.iconst 0, 1) := by decide +kernel
theorem dX12_treat_2 : decode cX12_treat 2 = .ok (.putfield 112, 3) := by decide +kernel
theorem dX12_treat_5 : decode cX12_treat 5 = .ok (.aload_n 0, 1) := by decide +kernel
theorem dX12_treat_6 : decode cX12_treat 6 = .ok (.invokevirtual 328, 3) := by decide +kernel
theorem dX12_treat_9 : decode cX12_treat 9 = .ok (.aload_n 0, 1) := by decide +kernel
theorem dX12_treat_10 : decode cX12_treat 10 = .ok (.aload_n 0, 1) := by decide +kernel
theorem dX12_treat_11 : decode cX12_treat 11 = .ok (.iload_n 1, 1) := by decide +kernel
theorem dX12_treat_12 : decode cX12_treat 12 = .ok (.invokevirtual 344, 3) := by decide +kernel
theorem dX12_treat_15 : decode cX12_treat 15 = .ok (.invokevirtual 335, 3) := by decide +kernel
theorem dX12_treat_18 : decode cX12_treat 18 = .ok (.ireturn, 1) := by decide +kernel
theorem dX12_moat_0 : decode cX12_moat 0 = .ok (.aload_n 0, 1) := by decide +kernel
theorem dX12_moat_1 : decode cX12_moat 1 = .ok (.iconst 0, 1) := by decide +kernel
theorem dX12_moat_2 : decode cX12_moat 2 = .ok (.putfield 112, 3) := by decide +kernel
theorem dX12_moat_5 : decode cX12_moat 5 = .ok (.aload_n 0, 1) := by decide +kernel
theorem dX12_moat_6 : decode cX12_moat 6 = .ok (.invokevirtual 328, 3) := by decide +kernel
theorem dX12_moat_9 : decode cX12_moat 9 = .ok (.aload_n 0, 1) := by decide +kernel
theorem dX12_moat_10 : decode cX12_moat 10 = .ok (.aload_n 0, 1) := by decide +kernel
theorem dX12_moat_11 : decode cX12_moat 11 = .ok (.iload_n 1, 1) := by decide +kernel
theorem dX12_moat_12 : decode cX12_moat 12 = .ok (.invokevirtual 347, 3) := by decide +kernel
theorem dX12_moat_15 : decode cX12_moat 15 = .ok (.invokevirtual 335, 3) := by decide +kernel
theorem dX12_moat_18 : decode cX12_moat 18 = .ok (.ireturn, 1) := by decide +kernel
theorem dX12_build_0 : decode cX12_build 0 = .ok (.aload_n 0, 1) := by decide +kernel
theorem dX12_build_1 : decode cX12_build 1 = .ok (.iconst 0, 1) := by decide +kernel
theorem dX12_build_2 : decode cX12_build 2 = .ok (.putfield 112, 3) := by decide +kernel
theorem dX12_build_5 : decode cX12_build 5 = .ok (.iload_n 1, 1) := by decide +kernel
theorem dX12_build_6 : decode cX12_build 6 = .ok (.i2l, 1) := by decide +kernel
theorem dX12_build_7 : decode cX12_build 7 = .ok (.lconst 0, 1) := by decide +kernel
theorem dX12_build_8 : decode cX12_build 8 = .ok (.ldc2_w 350, 3) := by decide +kernel
theorem dX12_build_11 : decode cX12_build 11 = .ok (.invokestatic 122, 3) := by decide +kernel
theorem dX12_build_14 : decode cX12_build 14 = .ok (.ifCond .ne 5, 3) := by decide +kernel
theorem dX12_build_17 : decode cX12_build 17 = .ok (.iconst (-1), 1) := by decide +kernel
theorem dX12_build_18 : decode cX12_build 18 = .ok (.ireturn, 1) := by decide +kernel
theorem dX12_build_19 : decode cX12_build 19 = .ok (.aload_n 0, 1) := by decide +kernel
theorem dX12_build_20 : decode cX12_build 20 = .ok (.invokevirtual 328, 3) := by decide +kernel
theorem dX12_build_23 : decode cX12_build 23 = .ok (.aload_n 0, 1) := by decide +kernel
theorem dX12_build_24 : decode cX12_build 24 = .ok (.aload_n 0, 1) := by decide +kernel
theorem dX12_build_25 : decode cX12_build 25 = .ok (.getfield 36, 3) := by decide +kernel
theorem dX12_build_28 : decode cX12_build 28 = .ok (.invokevirtual 352, 3) := by decide +kernel
theorem dX12_build_31 : decode cX12_build 31 = .ok (.istore_n 2, 1) := by decide +kernel
theorem dX12_build_32 : decode cX12_build 32 = .ok (.aload_n 0, 1) := by decide +kernel
theorem dX12_build_33 : decode cX12_build 33 = .ok (.iconst 0, 1) := by decide +kernel
theorem dX12_build_34 : decode cX12_build 34 = .ok (.putfield 309, 3) := by decide +kernel
theorem dX12_build_37 : decode cX12_build 37 = .ok (.aload_n 0, 1) := by decide +kernel
theorem dX12_build_38 : decode cX12_build 38 = .ok (.aload_n 0, 1) := by decide +kernel
theorem dX12_build_39 : decode cX12_build 39 = .ok (.getfield 36, 3) := by decide +kernel
theorem dX12_build_42 : decode cX12_build 42 = .ok (.iload_n 1, 1) := by decide +kernel
theorem dX12_build_43 : decode cX12_build 43 = .ok (.invokevirtual 356, 3) := by decide +kernel
theorem dX12_build_46 : decode cX12_build 46 = .ok (.aload_n 0, 1) := by decide +kernel
theorem dX12_build_47 : decode cX12_build 47 = .ok (.iconst 0, 1) := by decide +kernel
theorem dX12_build_48 : decode cX12_build 48 = .ok (.putfield 119, 3) := by decide +kernel
theorem dX12_build_51 : decode cX12_build 51 = .ok (.aload_n 0, 1) := by decide +kernel
theorem dX12_build_52 : decode cX12_build 52 = .ok (.aload_n 0, 1) := by decide +kernel
theorem dX12_build_53 : decode cX12_build 53 = .ok (.getfield 309, 3) := by decide +kernel
theorem dX12_build_56 : decode cX12_build 56 = .ok (.i2l, 1) := by decide +kernel
theorem dX12_build_57 : decode cX12_build 57 = .ok (.invokevirtual 359, 3) := by decide +kernel
theorem dX12_build_60 : decode cX12_build 60 = .ok (.aload_n 0, 1) := by decide +kernel
theorem dX12_build_61 : decode cX12_build 61 = .ok (.aload_n 0, 1) := by decide +kernel
theorem dX12_build_62 : decode cX12_build 62 = .ok (.aload_n 0, 1) := by decide +kernel
theorem dX12_build_63 : decode cX12_build 63 = .ok (.getfield 36, 3) := by decide +kernel
theorem dX12_build_66 : decode cX12_build 66 = .ok (.invokevirtual 352, 3) := by decide +kernel
theorem dX12_build_69 : decode cX12_build 69 = .ok (.iload_n 2, 1) := by decide +kernel
theorem dX12_build_70 : decode cX12_build 70 = .ok (.isub, 1) := by decide +kernel
theorem dX12_build_71 : decode cX12_build 71 = .ok (.invokevirtual 306, 3) := by decide +kernel
theorem dX12_build_74 : decode cX12_build 74 = .ok (.ireturn, 1) := by decide +kernel
theorem dX12_tide_0 : decode cX12_tide 0 = .ok (.aload_n 0, 1) := by decide +kernel
theorem dX12_tide_1 : decode cX12_tide 1 = .ok (.iconst 0, 1) := by decide +kernel
theorem dX12_tide_2 : decode cX12_tide 2 = .ok (.putfield 112, 3) := by decide +kernel
theorem dX12_tide_5 : decode cX12_tide 5 = .ok (.aload_n 0, 1) := by decide +kernel
theorem dX12_tide_6 : decode cX12_tide 6 = .ok (.invokevirtual 328, 3) := by decide +kernel
theorem dX12_tide_9 : decode cX12_tide 9 = .ok (.aload_n 0, 1) := by decide +kernel
theorem dX12_tide_10 : decode cX12_tide 10 = .ok (.aload_n 0, 1) := by decide +kernel
theorem dX12_tide_11 : decode cX12_tide 11 = .ok (.getfield 36, 3) := by decide +kernel
theorem dX12_tide_14 : decode cX12_tide 14 = .ok (.invokevirtual 363, 3) := by decide +kernel
theorem dX12_tide_17 : decode cX12_tide 17 = .ok (.istore_n 1, 1) := by decide +kernel
theorem dX12_tide_18 : decode cX12_tide 18 = .ok (.aload_n 0, 1) := by decide +kernel
theorem dX12_tide_19 : decode cX12_tide 19 = .ok (.aload_n 0, 1) := by decide +kernel
theorem dX12_tide_20 : decode cX12_tide 20 = .ok (.getfield 36, 3) := by decide +kernel
theorem dX12_tide_23 : decode cX12_tide 23 = .ok (.invokevirtual 366, 3) := by decide +kernel
theorem dX12_tide_26 : decode cX12_tide 26 = .ok (.istore_n 2, 1) := by decide +kernel
theorem dX12_tide_27 : decode cX12_tide 27 = .ok (.aload_n 0, 1) := by decide +kernel
theorem dX12_tide_28 : decode cX12_tide 28 = .ok (.iconst 0, 1) := by decide +kernel
theorem dX12_tide_29 : decode cX12_tide 29 = .ok (.putfield 119, 3) := by decide +kernel
theorem dX12_tide_32 : decode cX12_tide 32 = .ok (.aload_n 0, 1) := by decide +kernel
theorem dX12_tide_33 : decode cX12_tide 33 = .ok (.aload_n 0, 1) := by decide +kernel
theorem dX12_tide_34 : decode cX12_tide 34 = .ok (.getfield 319, 3) := by decide +kernel
theorem dX12_tide_37 : decode cX12_tide 37 = .ok (.i2l, 1) := by decide +kernel
theorem dX12_tide_38 : decode cX12_tide 38 = .ok (.invokevirtual 359, 3) := by decide +kernel
theorem dX12_tide_41 : decode cX12_tide 41 = .ok (.aload_n 0, 1) := by decide +kernel
theorem dX12_tide_42 : decode cX12_tide 42 = .ok (.aload_n 0, 1) := by decide +kernel
theorem dX12_tide_43 : decode cX12_tide 43 = .ok (.aload_n 0, 1) := by decide +kernel
theorem dX12_tide_44 : decode cX12_tide 44 = .ok (.getfield 36, 3) := by decide +kernel
theorem dX12_tide_47 : decode cX12_tide 47 = .ok (.invokevirtual 363, 3) := by decide +kernel
theorem dX12_tide_50 : decode cX12_tide 50 = .ok (.iload_n 1, 1) := by decide +kernel
theorem dX12_tide_51 : decode cX12_tide 51 = .ok (.isub, 1) := by decide +kernel
theorem dX12_tide_52 : decode cX12_tide 52 = .ok (.i2l, 1) := by decide +kernel
theorem dX12_tide_53 : decode cX12_tide 53 = .ok (.invokevirtual 359, 3) := by decide +kernel
theorem dX12_tide_56 : decode cX12_tide 56 = .ok (.aload_n 0, 1) := by decide +kernel
theorem dX12_tide_57 : decode cX12_tide 57 = .ok (.iload_n 2, 1) := by decide +kernel
theorem dX12_tide_58 : decode cX12_tide 58 = .ok (.invokevirtual 306, 3) := by decide +kernel
theorem dX12_tide_61 : decode cX12_tide 61 = .ok (.ireturn, 1) := by decide +kernel
theorem dX12_pump_0 : decode cX12_pump 0 = .ok (.aload_n 0, 1) := by decide +kernel
theorem dX12_pump_1 : decode cX12_pump 1 = .ok (.iconst 0, 1) := by decide +kernel
theorem dX12_pump_2 : decode cX12_pump 2 = .ok (.putfield 112, 3) := by decide +kernel
theorem dX12_pump_5 : decode cX12_pump 5 = .ok (.iload_n 1, 1) := by decide +kernel
theorem dX12_pump_6 : decode cX12_pump 6 = .ok (.i2l, 1) := by decide +kernel
theorem dX12_pump_7 : decode cX12_pump 7 = .ok (.lconst 1, 1) := by decide +kernel
theorem dX12_pump_8 : decode cX12_pump 8 = .ok (.ldc2_w 369, 3) := by decide +kernel
theorem dX12_pump_11 : decode cX12_pump 11 = .ok (.invokestatic 122, 3) := by decide +kernel
theorem dX12_pump_14 : decode cX12_pump 14 = .ok (.ifCond .ne 5, 3) := by decide +kernel
theorem dX12_pump_17 : decode cX12_pump 17 = .ok (.iconst (-1), 1) := by decide +kernel
theorem dX12_pump_18 : decode cX12_pump 18 = .ok (.ireturn, 1) := by decide +kernel
theorem dX12_pump_19 : decode cX12_pump 19 = .ok (.aload_n 0, 1) := by decide +kernel
theorem dX12_pump_20 : decode cX12_pump 20 = .ok (.invokevirtual 328, 3) := by decide +kernel
theorem dX12_pump_23 : decode cX12_pump 23 = .ok (.iconst 0, 1) := by decide +kernel
theorem dX12_pump_24 : decode cX12_pump 24 = .ok (.istore_n 2, 1) := by decide +kernel
theorem dX12_pump_25 : decode cX12_pump 25 = .ok (.iload_n 2, 1) := by decide +kernel
theorem dX12_pump_26 : decode cX12_pump 26 = .ok (.aload_n 0, 1) := by decide +kernel
theorem dX12_pump_27 : decode cX12_pump 27 = .ok (.getfield 13, 3) := by decide +kernel
theorem dX12_pump_30 : decode cX12_pump 30 = .ok (.if_icmp .ge 33, 3) := by decide +kernel
theorem dX12_pump_33 : decode cX12_pump 33 = .ok (.aload_n 0, 1) := by decide +kernel
theorem dX12_pump_34 : decode cX12_pump 34 = .ok (.getfield 36, 3) := by decide +kernel
theorem dX12_pump_37 : decode cX12_pump 37 = .ok (.bipush 13, 2) := by decide +kernel
theorem dX12_pump_39 : decode cX12_pump 39 = .ok (.iload_n 2, 1) := by decide +kernel
theorem dX12_pump_40 : decode cX12_pump 40 = .ok (.iadd, 1) := by decide +kernel
theorem dX12_pump_41 : decode cX12_pump 41 = .ok (.iconst 0, 1) := by decide +kernel
theorem dX12_pump_42 : decode cX12_pump 42 = .ok (.aload_n 0, 1) := by decide +kernel
theorem dX12_pump_43 : decode cX12_pump 43 = .ok (.getfield 36, 3) := by decide +kernel
theorem dX12_pump_46 : decode cX12_pump 46 = .ok (.bipush 13, 2) := by decide +kernel
theorem dX12_pump_48 : decode cX12_pump 48 = .ok (.iload_n 2, 1) := by decide +kernel
theorem dX12_pump_49 : decode cX12_pump 49 = .ok (.iadd, 1) := by decide +kernel
theorem dX12_pump_50 : decode cX12_pump 50 = .ok (.iaload, 1) := by decide +kernel
theorem dX12_pump_51 : decode cX12_pump 51 = .ok (.iload_n 1, 1) := by decide +kernel
theorem dX12_pump_52 : decode cX12_pump 52 = .ok (.isub, 1) := by decide +kernel
theorem dX12_pump_53 : decode cX12_pump 53 = .ok (.invokestatic 259, 3) := by decide +kernel
theorem dX12_pump_56 : decode cX12_pump 56 = .ok (.iastore, 1) := by decide +kernel
theorem dX12_pump_57 : decode cX12_pump 57 = .ok (.iinc 2 1, 3) := by decide +kernel
theorem dX12_pump_60 : decode cX12_pump 60 = .ok (.goto (-35), 3) := by decide +kernel
theorem dX12_pump_63 : decode cX12_pump 63 = .ok (.aload_n 0, 1) := by decide +kernel
theorem dX12_pump_64 : decode cX12_pump 64 = .ok (.aload_n 0, 1) := by decide +kernel
theorem dX12_pump_65 : decode cX12_pump 65 = .ok (.aload_n 0, 1) := by decide +kernel
theorem dX12_pump_66 : decode cX12_pump 66 = .ok (.getfield 36, 3) := by decide +kernel
theorem dX12_pump_69 : decode cX12_pump 69 = .ok (.invokevirtual 371, 3) := by decide +kernel
theorem dX12_pump_72 : decode cX12_pump 72 = .ok (.invokestatic 251, 3) := by decide +kernel
theorem dX12_pump_75 : decode cX12_pump 75 = .ok (.invokevirtual 306, 3) := by decide +kernel
theorem dX12_pump_78 : decode cX12_pump 78 = .ok (.ireturn, 1) := by decide +kernel
theorem dX12_readsAct_0 : decode cX12_readsAct 0 = .ok (.aload_n 0, 1) := by decide +kernel
theorem dX12_readsAct_1 : decode cX12_readsAct 1 = .ok (.getfield 374, 3) := by decide +kernel
theorem dX12_readsAct_4 : decode cX12_readsAct 4 = .ok (.istore_n 1, 1) := by decide +kernel
theorem dX12_readsAct_5 : decode cX12_readsAct 5 = .ok (.aload_n 0, 1) := by decide +kernel
theorem dX12_readsAct_6 : decode cX12_readsAct 6 = .ok (.getfield 66, 3) := by decide +kernel
theorem dX12_readsAct_9 : decode cX12_readsAct 9 = .ok (.iload_n 1, 1) := by decide +kernel
theorem dX12_readsAct_10 : decode cX12_readsAct 10 = .ok (.aload_n 0, 1) := by decide +kernel
theorem dX12_readsAct_11 : decode cX12_readsAct 11 = .ok (.ldc_w 377, 3) := by decide +kernel
theorem dX12_readsAct_14 : decode cX12_readsAct 14 = .ok (.invokevirtual 226, 3) := by decide +kernel
theorem dX12_readsAct_17 : decode cX12_readsAct 17 = .ok (.iastore, 1) := by decide +kernel
theorem dX12_readsAct_18 : decode cX12_readsAct 18 = .ok (.aload_n 0, 1) := by decide +kernel
theorem dX12_readsAct_19 : decode cX12_readsAct 19 = .ok (.dup, 1) := by decide +kernel
theorem dX12_readsAct_20 : decode cX12_readsAct 20 = .ok (.getfield 374, 3) := by decide +kernel
theorem dX12_readsAct_23 : decode cX12_readsAct 23 = .ok (.iconst 1, 1) := by decide +kernel
theorem dX12_readsAct_24 : decode cX12_readsAct 24 = .ok (.iadd, 1) := by decide +kernel
theorem dX12_readsAct_25 : decode cX12_readsAct 25 = .ok (.putfield 374, 3) := by decide +kernel
theorem dX12_readsAct_28 : decode cX12_readsAct 28 = .ok (.aload_n 0, 1) := by decide +kernel
theorem dX12_readsAct_29 : decode cX12_readsAct 29 = .ok (.getfield 66, 3) := by decide +kernel
theorem dX12_readsAct_32 : decode cX12_readsAct 32 = .ok (.iload_n 1, 1) := by decide +kernel
theorem dX12_readsAct_33 : decode cX12_readsAct 33 = .ok (.iaload, 1) := by decide +kernel
theorem dX12_readsAct_34 : decode cX12_readsAct 34 = .ok (.ifCond .lt 14, 3) := by decide +kernel
theorem dX12_readsAct_37 : decode cX12_readsAct 37 = .ok (.aload_n 0, 1) := by decide +kernel
theorem dX12_readsAct_38 : decode cX12_readsAct 38 = .ok (.getfield 66, 3) := by decide +kernel
theorem dX12_readsAct_41 : decode cX12_readsAct 41 = .ok (.iload_n 1, 1) := by decide +kernel
theorem dX12_readsAct_42 : decode cX12_readsAct 42 = .ok (.iaload, 1) := by decide +kernel
theorem dX12_readsAct_43 : decode cX12_readsAct 43 = .ok (.bipush 6, 2) := by decide +kernel
theorem dX12_readsAct_45 : decode cX12_readsAct 45 = .ok (.if_icmp .ne 18, 3) := by decide +kernel
theorem dX12_readsAct_48 : decode cX12_readsAct 48 = .ok (.aload_n 0, 1) := by decide +kernel
theorem dX12_readsAct_49 : decode cX12_readsAct 49 = .ok (.getfield 66, 3) := by decide +kernel
theorem dX12_readsAct_52 : decode cX12_readsAct 52 = .ok (.iload_n 1, 1) := by decide +kernel
theorem dX12_readsAct_53 : decode cX12_readsAct 53 = .ok (.iaload, 1) := by decide +kernel
theorem dX12_readsAct_54 : decode cX12_readsAct 54 = .ok (.ifCond .lt 7, 3) := by decide +kernel
theorem dX12_readsAct_57 : decode cX12_readsAct 57 = .ok (.iconst 1, 1) := by decide +kernel
theorem dX12_readsAct_58 : decode cX12_readsAct 58 = .ok (.goto 4, 3) := by decide +kernel
theorem dX12_readsAct_61 : decode cX12_readsAct 61 = .ok (.iconst 0, 1) := by decide +kernel
theorem dX12_readsAct_62 : decode cX12_readsAct 62 = .ok (.ireturn, 1) := by decide +kernel
theorem dX12_readsAct_63 : decode cX12_readsAct 63 = .ok (.aload_n 0, 1) := by decide +kernel
theorem dX12_readsAct_64 : decode cX12_readsAct 64 = .ok (.getfield 69, 3) := by decide +kernel
theorem dX12_readsAct_67 : decode cX12_readsAct 67 = .ok (.iload_n 1, 1) := by decide +kernel
theorem dX12_readsAct_68 : decode cX12_readsAct 68 = .ok (.aload_n 0, 1) := by decide +kernel
theorem dX12_readsAct_69 : decode cX12_readsAct 69 = .ok (.getfield 66, 3) := by decide +kernel
theorem dX12_readsAct_72 : decode cX12_readsAct 72 = .ok (.iload_n 1, 1) := by decide +kernel
theorem dX12_readsAct_73 : decode cX12_readsAct 73 = .ok (.iaload, 1) := by decide +kernel
theorem dX12_readsAct_74 : decode cX12_readsAct 74 = .ok (.iconst 4, 1) := by decide +kernel
theorem dX12_readsAct_75 : decode cX12_readsAct 75 = .ok (.if_icmp .ge 13, 3) := by decide +kernel
theorem dX12_readsAct_78 : decode cX12_readsAct 78 = .ok (.aload_n 0, 1) := by decide +kernel
theorem dX12_readsAct_79 : decode cX12_readsAct 79 = .ok (.ldc_w 379, 3) := by decide +kernel
theorem dX12_readsAct_82 : decode cX12_readsAct 82 = .ok (.invokevirtual 226, 3) := by decide +kernel
theorem dX12_readsAct_85 : decode cX12_readsAct 85 = .ok (.goto 28, 3) := by decide +kernel
theorem dX12_readsAct_88 : decode cX12_readsAct 88 = .ok (.aload_n 0, 1) := by decide +kernel
theorem dX12_readsAct_89 : decode cX12_readsAct 89 = .ok (.getfield 66, 3) := by decide +kernel
theorem dX12_readsAct_92 : decode cX12_readsAct 92 = .ok (.iload_n 1, 1) := by decide +kernel
theorem dX12_readsAct_93 : decode cX12_readsAct 93 = .ok (.iaload, 1) := by decide +kernel
theorem dX12_readsAct_94 : decode cX12_readsAct 94 = .ok (.iconst 4, 1) := by decide +kernel
theorem dX12_readsAct_95 : decode cX12_readsAct 95 = .ok (.if_icmp .ne 13, 3) := by decide +kernel
theorem dX12_readsAct_98 : decode cX12_readsAct 98 = .ok (.aload_n 0, 1) := by decide +kernel
theorem dX12_readsAct_99 : decode cX12_readsAct 99 = .ok (.ldc_w 381, 3) := by decide +kernel
theorem dX12_readsAct_102 : decode cX12_readsAct 102 = .ok (.invokevirtual 226, 3) := by decide +kernel
theorem dX12_readsAct_105 : decode cX12_readsAct 105 = .ok (.goto 8, 3) := by decide +kernel
theorem dX12_readsAct_108 : decode cX12_readsAct 108 = .ok (.aload_n 0, 1) := by decide +kernel
theorem dX12_readsAct_109 : decode cX12_readsAct 109 = .ok (.iconst 1, 1) := by decide +kernel
theorem dX12_readsAct_110 : decode cX12_readsAct 110 = .ok (.invokevirtual 177, 3) := by decide +kernel
theorem dX12_readsAct_113 : decode cX12_readsAct 113 = .ok (.iastore, 1) := by decide +kernel
theorem dX12_readsAct_114 : decode cX12_readsAct 114 = .ok (.aload_n 0, 1) := by decide +kernel
theorem dX12_readsAct_115 : decode cX12_readsAct 115 = .ok (.getfield 69, 3) := by decide +kernel
theorem dX12_readsAct_118 : decode cX12_readsAct 118 = .ok (.iload_n 1, 1) := by decide +kernel
theorem dX12_readsAct_119 : decode cX12_readsAct 119 = .ok (.iaload, 1) := by decide +kernel
theorem dX12_readsAct_120 : decode cX12_readsAct 120 = .ok (.ifCond .lt 12, 3) := by decide +kernel
theorem dX12_readsAct_123 : decode cX12_readsAct 123 = .ok (.aload_n 0, 1) := by decide +kernel
theorem dX12_readsAct_124 : decode cX12_readsAct 124 = .ok (.getfield 66, 3) := by decide +kernel
theorem dX12_readsAct_127 : decode cX12_readsAct 127 = .ok (.iload_n 1, 1) := by decide +kernel
theorem dX12_readsAct_128 : decode cX12_readsAct 128 = .ok (.iaload, 1) := by decide +kernel
theorem dX12_readsAct_129 : decode cX12_readsAct 129 = .ok (.ifCond .eq 18, 3) := by decide +kernel
theorem dX12_readsAct_132 : decode cX12_readsAct 132 = .ok (.aload_n 0, 1) := by decide +kernel
theorem dX12_readsAct_133 : decode cX12_readsAct 133 = .ok (.getfield 69, 3) := by decide +kernel
theorem dX12_readsAct_136 : decode cX12_readsAct 136 = .ok (.iload_n 1, 1) := by decide +kernel
theorem dX12_readsAct_137 : decode cX12_readsAct 137 = .ok (.iaload, 1) := by decide +kernel
theorem dX12_readsAct_138 : decode cX12_readsAct 138 = .ok (.ifCond .lt 7, 3) := by decide +kernel
theorem dX12_readsAct_141 : decode cX12_readsAct 141 = .ok (.iconst 1, 1) := by decide +kernel
theorem dX12_readsAct_142 : decode cX12_readsAct 142 = .ok (.goto 4, 3) := by decide +kernel
theorem dX12_readsAct_145 : decode cX12_readsAct 145 = .ok (.iconst 0, 1) := by decide +kernel
theorem dX12_readsAct_146 : decode cX12_readsAct 146 = .ok (.ireturn, 1) := by decide +kernel
theorem dX12_readsAct_147 : decode cX12_readsAct 147 = .ok (.aload_n 0, 1) := by decide +kernel
theorem dX12_readsAct_148 : decode cX12_readsAct 148 = .ok (.getfield 72, 3) := by decide +kernel
theorem dX12_readsAct_151 : decode cX12_readsAct 151 = .ok (.iload_n 1, 1) := by decide +kernel
theorem dX12_readsAct_152 : decode cX12_readsAct 152 = .ok (.aload_n 0, 1) := by decide +kernel
theorem dX12_readsAct_153 : decode cX12_readsAct 153 = .ok (.ldc_w 381, 3) := by decide +kernel
theorem dX12_readsAct_156 : decode cX12_readsAct 156 = .ok (.invokevirtual 226, 3) := by decide +kernel
theorem dX12_readsAct_159 : decode cX12_readsAct 159 = .ok (.iastore, 1) := by decide +kernel
theorem dX12_readsAct_160 : decode cX12_readsAct 160 = .ok (.aload_n 0, 1) := by decide +kernel
theorem dX12_readsAct_161 : decode cX12_readsAct 161 = .ok (.getfield 72, 3) := by decide +kernel
theorem dX12_readsAct_164 : decode cX12_readsAct 164 = .ok (.iload_n 1, 1) := by decide +kernel
theorem dX12_readsAct_165 : decode cX12_readsAct 165 = .ok (.iaload, 1) := by decide +kernel
theorem dX12_readsAct_166 : decode cX12_readsAct 166 = .ok (.ifCond .lt 7, 3) := by decide +kernel
theorem dX12_readsAct_169 : decode cX12_readsAct 169 = .ok (.iconst 1, 1) := by decide +kernel
theorem dX12_readsAct_170 : decode cX12_readsAct 170 = .ok (.goto 4, 3) := by decide +kernel
theorem dX12_readsAct_173 : decode cX12_readsAct 173 = .ok (.iconst 0, 1) := by decide +kernel
theorem dX12_readsAct_174 : decode cX12_readsAct 174 = .ok (.ireturn, 1) := by decide +kernel
theorem dX12_does_0 : decode cX12_does 0 = .ok (.aload_n 0, 1) := by decide +kernel
theorem dX12_does_1 : decode cX12_does 1 = .ok (.getfield 69, 3) := by decide +kernel
theorem dX12_does_4 : decode cX12_does 4 = .ok (.iload_n 1, 1) := by decide +kernel
theorem dX12_does_5 : decode cX12_does 5 = .ok (.iaload, 1) := by decide +kernel
theorem dX12_does_6 : decode cX12_does 6 = .ok (.istore_n 2, 1) := by decide +kernel
theorem dX12_does_7 : decode cX12_does 7 = .ok (.aload_n 0, 1) := by decide +kernel
theorem dX12_does_8 : decode cX12_does 8 = .ok (.getfield 66, 3) := by decide +kernel
theorem dX12_does_11 : decode cX12_does 11 = .ok (.iload_n 1, 1) := by decide +kernel
theorem dX12_does_12 : decode cX12_does 12 = .ok (.iaload, 1) := by decide +kernel
theorem dX12_does_13 : decode cX12_does 13 = .ok (.tableswitch 130 0 5 #[39, 63, 77, 91, 105, 119], 39) := by decide +kernel
theorem dX12_does_52 : decode cX12_does 52 = .ok (.aload_n 0, 1) := by decide +kernel
theorem dX12_does_53 : decode cX12_does 53 = .ok (.aload_n 0, 1) := by decide +kernel
theorem dX12_does_54 : decode cX12_does 54 = .ok (.getfield 36, 3) := by decide +kernel
theorem dX12_does_57 : decode cX12_does 57 = .ok (.iload_n 2, 1) := by decide +kernel
theorem dX12_does_58 : decode cX12_does 58 = .ok (.aload_n 0, 1) := by decide +kernel
theorem dX12_does_59 : decode cX12_does 59 = .ok (.getfield 72, 3) := by decide +kernel
theorem dX12_does_62 : decode cX12_does 62 = .ok (.iload_n 1, 1) := by decide +kernel
theorem dX12_does_63 : decode cX12_does 63 = .ok (.iaload, 1) := by decide +kernel
theorem dX12_does_64 : decode cX12_does 64 = .ok (.invokevirtual 331, 3) := by decide +kernel
theorem dX12_does_67 : decode cX12_does 67 = .ok (.ifCond .lt 7, 3) := by decide +kernel
theorem dX12_does_70 : decode cX12_does 70 = .ok (.iconst 1, 1) := by decide +kernel
theorem dX12_does_71 : decode cX12_does 71 = .ok (.goto 4, 3) := by decide +kernel
theorem dX12_does_74 : decode cX12_does 74 = .ok (.iconst 0, 1) := by decide +kernel
theorem dX12_does_75 : decode cX12_does 75 = .ok (.ireturn, 1) := by decide +kernel
theorem dX12_does_76 : decode cX12_does 76 = .ok (.aload_n 0, 1) := by decide +kernel
theorem dX12_does_77 : decode cX12_does 77 = .ok (.iload_n 2, 1) := by decide +kernel
theorem dX12_does_78 : decode cX12_does 78 = .ok (.invokevirtual 338, 3) := by decide +kernel
theorem dX12_does_81 : decode cX12_does 81 = .ok (.ifCond .lt 7, 3) := by decide +kernel
theorem dX12_does_84 : decode cX12_does 84 = .ok (.iconst 1, 1) := by decide +kernel
theorem dX12_does_85 : decode cX12_does 85 = .ok (.goto 4, 3) := by decide +kernel
theorem dX12_does_88 : decode cX12_does 88 = .ok (.iconst 0, 1) := by decide +kernel
theorem dX12_does_89 : decode cX12_does 89 = .ok (.ireturn, 1) := by decide +kernel
theorem dX12_does_90 : decode cX12_does 90 = .ok (.aload_n 0, 1) := by decide +kernel
theorem dX12_does_91 : decode cX12_does 91 = .ok (.iload_n 2, 1) := by decide +kernel
theorem dX12_does_92 : decode cX12_does 92 = .ok (.invokevirtual 341, 3) := by decide +kernel
theorem dX12_does_95 : decode cX12_does 95 = .ok (.ifCond .lt 7, 3) := by decide +kernel
theorem dX12_does_98 : decode cX12_does 98 = .ok (.iconst 1, 1) := by decide +kernel
theorem dX12_does_99 : decode cX12_does 99 = .ok (.goto 4, 3) := by decide +kernel
theorem dX12_does_102 : decode cX12_does 102 = .ok (.iconst 0, 1) := by decide +kernel
theorem dX12_does_103 : decode cX12_does 103 = .ok (.ireturn, 1) := by decide +kernel
theorem dX12_does_104 : decode cX12_does 104 = .ok (.aload_n 0, 1) := by decide +kernel
theorem dX12_does_105 : decode cX12_does 105 = .ok (.iload_n 2, 1) := by decide +kernel
theorem dX12_does_106 : decode cX12_does 106 = .ok (.invokevirtual 344, 3) := by decide +kernel
theorem dX12_does_109 : decode cX12_does 109 = .ok (.ifCond .lt 7, 3) := by decide +kernel
theorem dX12_does_112 : decode cX12_does 112 = .ok (.iconst 1, 1) := by decide +kernel
theorem dX12_does_113 : decode cX12_does 113 = .ok (.goto 4, 3) := by decide +kernel
theorem dX12_does_116 : decode cX12_does 116 = .ok (.iconst 0, 1) := by decide +kernel
theorem dX12_does_117 : decode cX12_does 117 = .ok (.ireturn, 1) := by decide +kernel
theorem dX12_does_118 : decode cX12_does 118 = .ok (.aload_n 0, 1) := by decide +kernel
theorem dX12_does_119 : decode cX12_does 119 = .ok (.iload_n 2, 1) := by decide +kernel
theorem dX12_does_120 : decode cX12_does 120 = .ok (.invokevirtual 347, 3) := by decide +kernel
theorem dX12_does_123 : decode cX12_does 123 = .ok (.ifCond .lt 7, 3) := by decide +kernel
theorem dX12_does_126 : decode cX12_does 126 = .ok (.iconst 1, 1) := by decide +kernel
theorem dX12_does_127 : decode cX12_does 127 = .ok (.goto 4, 3) := by decide +kernel
theorem dX12_does_130 : decode cX12_does 130 = .ok (.iconst 0, 1) := by decide +kernel
theorem dX12_does_131 : decode cX12_does 131 = .ok (.ireturn, 1) := by decide +kernel
theorem dX12_does_132 : decode cX12_does 132 = .ok (.aload_n 0, 1) := by decide +kernel
theorem dX12_does_133 : decode cX12_does 133 = .ok (.aload_n 0, 1) := by decide +kernel
theorem dX12_does_134 : decode cX12_does 134 = .ok (.getfield 36, 3) := by decide +kernel
theorem dX12_does_137 : decode cX12_does 137 = .ok (.iload_n 2, 1) := by decide +kernel
theorem dX12_does_138 : decode cX12_does 138 = .ok (.invokevirtual 356, 3) := by decide +kernel
theorem dX12_does_141 : decode cX12_does 141 = .ok (.iconst 1, 1) := by decide +kernel
theorem dX12_does_142 : decode cX12_does 142 = .ok (.ireturn, 1) := by decide +kernel
theorem dX12_does_143 : decode cX12_does 143 = .ok (.aload_n 0, 1) := by decide +kernel
theorem dX12_does_144 : decode cX12_does 144 = .ok (.aload_n 0, 1) := by decide +kernel
theorem dX12_does_145 : decode cX12_does 145 = .ok (.getfield 36, 3) := by decide +kernel
theorem dX12_does_148 : decode cX12_does 148 = .ok (.invokevirtual 366, 3) := by decide +kernel
theorem dX12_does_151 : decode cX12_does 151 = .ok (.pop, 1) := by decide +kernel
theorem dX12_does_152 : decode cX12_does 152 = .ok (.iconst 1, 1) := by decide +kernel
theorem dX12_does_153 : decode cX12_does 153 = .ok (.ireturn, 1) := by decide +kernel
theorem dX12_summer_0 : decode cX12_summer 0 = .ok (.aload_n 0, 1) := by decide +kernel
theorem dX12_summer_1 : decode cX12_summer 1 = .ok (.iconst 0, 1) := by decide +kernel
theorem dX12_summer_2 : decode cX12_summer 2 = .ok (.putfield 112, 3) := by decide +kernel
theorem dX12_summer_5 : decode cX12_summer 5 = .ok (.aload_n 0, 1) := by decide +kernel
theorem dX12_summer_6 : decode cX12_summer 6 = .ok (.bipush 60, 2) := by decide +kernel
theorem dX12_summer_8 : decode cX12_summer 8 = .ok (.invokevirtual 181, 3) := by decide +kernel
theorem dX12_summer_11 : decode cX12_summer 11 = .ok (.istore_n 1, 1) := by decide +kernel
theorem dX12_summer_12 : decode cX12_summer 12 = .ok (.aload_n 0, 1) := by decide +kernel
theorem dX12_summer_13 : decode cX12_summer 13 = .ok (.iconst 0, 1) := by decide +kernel
theorem dX12_summer_14 : decode cX12_summer 14 = .ok (.putfield 374, 3) := by decide +kernel
theorem dX12_summer_17 : decode cX12_summer 17 = .ok (.iconst 1, 1) := by decide +kernel
theorem dX12_summer_18 : decode cX12_summer 18 = .ok (.istore_n 2, 1) := by decide +kernel
theorem dX12_summer_19 : decode cX12_summer 19 = .ok (.iload_n 2, 1) := by decide +kernel
theorem dX12_summer_20 : decode cX12_summer 20 = .ok (.ifCond .eq 22, 3) := by decide +kernel
theorem dX12_summer_23 : decode cX12_summer 23 = .ok (.aload_n 0, 1) := by decide +kernel
theorem dX12_summer_24 : decode cX12_summer 24 = .ok (.getfield 136, 3) := by decide +kernel
theorem dX12_summer_27 : decode cX12_summer 27 = .ok (.aload_n 0, 1) := by decide +kernel
theorem dX12_summer_28 : decode cX12_summer 28 = .ok (.getfield 148, 3) := by decide +kernel
theorem dX12_summer_31 : decode cX12_summer 31 = .ok (.if_icmp .ge 11, 3) := by decide +kernel
theorem dX12_summer_34 : decode cX12_summer 34 = .ok (.aload_n 0, 1) := by decide +kernel
theorem dX12_summer_35 : decode cX12_summer 35 = .ok (.invokevirtual 383, 3) := by decide +kernel
theorem dX12_summer_38 : decode cX12_summer 38 = .ok (.istore_n 2, 1) := by decide +kernel
theorem dX12_summer_39 : decode cX12_summer 39 = .ok (.goto (-20), 3) := by decide +kernel
theorem dX12_summer_42 : decode cX12_summer 42 = .ok (.aload_n 0, 1) := by decide +kernel
theorem dX12_summer_43 : decode cX12_summer 43 = .ok (.iload_n 1, 1) := by decide +kernel
theorem dX12_summer_44 : decode cX12_summer 44 = .ok (.bipush 60, 2) := by decide +kernel
theorem dX12_summer_46 : decode cX12_summer 46 = .ok (.iload_n 2, 1) := by decide +kernel
theorem dX12_summer_47 : decode cX12_summer 47 = .ok (.invokevirtual 210, 3) := by decide +kernel
theorem dX12_summer_50 : decode cX12_summer 50 = .ok (.istore_n 3, 1) := by decide +kernel
theorem dX12_summer_51 : decode cX12_summer 51 = .ok (.iload_n 3, 1) := by decide +kernel
theorem dX12_summer_52 : decode cX12_summer 52 = .ok (.ifCond .ge 5, 3) := by decide +kernel
theorem dX12_summer_55 : decode cX12_summer 55 = .ok (.iload_n 3, 1) := by decide +kernel
theorem dX12_summer_56 : decode cX12_summer 56 = .ok (.ireturn, 1) := by decide +kernel
theorem dX12_summer_57 : decode cX12_summer 57 = .ok (.aload_n 0, 1) := by decide +kernel
theorem dX12_summer_58 : decode cX12_summer 58 = .ok (.invokevirtual 328, 3) := by decide +kernel
theorem dX12_summer_61 : decode cX12_summer 61 = .ok (.iconst 0, 1) := by decide +kernel
theorem dX12_summer_62 : decode cX12_summer 62 = .ok (.istore 4, 2) := by decide +kernel
theorem dX12_summer_64 : decode cX12_summer 64 = .ok (.iload 4, 2) := by decide +kernel
theorem dX12_summer_66 : decode cX12_summer 66 = .ok (.aload_n 0, 1) := by decide +kernel
theorem dX12_summer_67 : decode cX12_summer 67 = .ok (.getfield 374, 3) := by decide +kernel
theorem dX12_summer_70 : decode cX12_summer 70 = .ok (.if_icmp .ge 18, 3) := by decide +kernel
theorem dX12_summer_73 : decode cX12_summer 73 = .ok (.aload_n 0, 1) := by decide +kernel
theorem dX12_summer_74 : decode cX12_summer 74 = .ok (.iload 4, 2) := by decide +kernel
theorem dX12_summer_76 : decode cX12_summer 76 = .ok (.invokevirtual 386, 3) := by decide +kernel
theorem dX12_summer_79 : decode cX12_summer 79 = .ok (.ifCond .eq 9, 3) := by decide +kernel
theorem dX12_summer_82 : decode cX12_summer 82 = .ok (.iinc 4 1, 3) := by decide +kernel
theorem dX12_summer_85 : decode cX12_summer 85 = .ok (.goto (-21), 3) := by decide +kernel
theorem dX12_summer_88 : decode cX12_summer 88 = .ok (.aload_n 0, 1) := by decide +kernel
theorem dX12_summer_89 : decode cX12_summer 89 = .ok (.iconst 0, 1) := by decide +kernel
theorem dX12_summer_90 : decode cX12_summer 90 = .ok (.putfield 119, 3) := by decide +kernel
theorem dX12_summer_93 : decode cX12_summer 93 = .ok (.aload_n 0, 1) := by decide +kernel
theorem dX12_summer_94 : decode cX12_summer 94 = .ok (.iload 4, 2) := by decide +kernel
theorem dX12_summer_96 : decode cX12_summer 96 = .ok (.aload_n 0, 1) := by decide +kernel
theorem dX12_summer_97 : decode cX12_summer 97 = .ok (.getfield 374, 3) := by decide +kernel
theorem dX12_summer_100 : decode cX12_summer 100 = .ok (.if_icmp .ge 7, 3) := by decide +kernel
theorem dX12_summer_103 : decode cX12_summer 103 = .ok (.iconst 1, 1) := by decide +kernel
theorem dX12_summer_104 : decode cX12_summer 104 = .ok (.goto 4, 3) := by decide +kernel
theorem dX12_summer_107 : decode cX12_summer 107 = .ok (.iconst 0, 1) := by decide +kernel
theorem dX12_summer_108 : decode cX12_summer 108 = .ok (.invokestatic 151, 3) := by decide +kernel
theorem dX12_summer_111 : decode cX12_summer 111 = .ok (.i2l, 1) := by decide +kernel
theorem dX12_summer_112 : decode cX12_summer 112 = .ok (.invokevirtual 359, 3) := by decide +kernel
theorem dX12_summer_115 : decode cX12_summer 115 = .ok (.aload_n 0, 1) := by decide +kernel
theorem dX12_summer_116 : decode cX12_summer 116 = .ok (.aload_n 0, 1) := by decide +kernel
theorem dX12_summer_117 : decode cX12_summer 117 = .ok (.aload_n 0, 1) := by decide +kernel
theorem dX12_summer_118 : decode cX12_summer 118 = .ok (.getfield 36, 3) := by decide +kernel
theorem dX12_summer_121 : decode cX12_summer 121 = .ok (.invokevirtual 371, 3) := by decide +kernel
theorem dX12_summer_124 : decode cX12_summer 124 = .ok (.invokestatic 251, 3) := by decide +kernel
theorem dX12_summer_127 : decode cX12_summer 127 = .ok (.i2l, 1) := by decide +kernel
theorem dX12_summer_128 : decode cX12_summer 128 = .ok (.invokevirtual 359, 3) := by decide +kernel
theorem dX12_summer_131 : decode cX12_summer 131 = .ok (.iload 4, 2) := by decide +kernel
theorem dX12_summer_133 : decode cX12_summer 133 = .ok (.ifCond .le 12, 3) := by decide +kernel
theorem dX12_summer_136 : decode cX12_summer 136 = .ok (.aload_n 0, 1) := by decide +kernel
theorem dX12_summer_137 : decode cX12_summer 137 = .ok (.iload 4, 2) := by decide +kernel
theorem dX12_summer_139 : decode cX12_summer 139 = .ok (.invokevirtual 306, 3) := by decide +kernel
theorem dX12_summer_142 : decode cX12_summer 142 = .ok (.goto 4, 3) := by decide +kernel
theorem dX12_summer_145 : decode cX12_summer 145 = .ok (.iconst 0, 1) := by decide +kernel
theorem dX12_summer_146 : decode cX12_summer 146 = .ok (.ireturn, 1) := by decide +kernel
theorem dX12_puts_0 : decode cX12_puts 0 = .ok (.iconst 0, 1) := by decide +kernel
theorem dX12_puts_1 : decode cX12_puts 1 = .ok (.istore_n 1, 1) := by decide +kernel
theorem dX12_puts_2 : decode cX12_puts 2 = .ok (.iload_n 1, 1) := by decide +kernel
theorem dX12_puts_3 : decode cX12_puts 3 = .ok (.bipush 43, 2) := by decide +kernel
theorem dX12_puts_5 : decode cX12_puts 5 = .ok (.if_icmp .ge 21, 3) := by decide +kernel
theorem dX12_puts_8 : decode cX12_puts 8 = .ok (.aload_n 0, 1) := by decide +kernel
theorem dX12_puts_9 : decode cX12_puts 9 = .ok (.getfield 39, 3) := by decide +kernel
theorem dX12_puts_12 : decode cX12_puts 12 = .ok (.iload_n 1, 1) := by decide +kernel
theorem dX12_puts_13 : decode cX12_puts 13 = .ok (.aload_n 0, 1) := by decide +kernel
theorem dX12_puts_14 : decode cX12_puts 14 = .ok (.getfield 36, 3) := by decide +kernel
theorem dX12_puts_17 : decode cX12_puts 17 = .ok (.iload_n 1, 1) := by decide +kernel
theorem dX12_puts_18 : decode cX12_puts 18 = .ok (.iaload, 1) := by decide +kernel
theorem dX12_puts_19 : decode cX12_puts 19 = .ok (.iastore, 1) := by decide +kernel
theorem dX12_puts_20 : decode cX12_puts 20 = .ok (.iinc 1 1, 3) := by decide +kernel
theorem dX12_puts_23 : decode cX12_puts 23 = .ok (.goto (-21), 3) := by decide +kernel
theorem dX12_puts_26 : decode cX12_puts 26 = .ok (.return_, 1) := by decide +kernel
theorem dX12_level_0 : decode cX12_level 0 = .ok (.aload_n 0, 1) := by decide +kernel
theorem dX12_level_1 : decode cX12_level 1 = .ok (.iconst 0, 1) := by decide +kernel
theorem dX12_level_2 : decode cX12_level 2 = .ok (.putfield 112, 3) := by decide +kernel
theorem dX12_level_5 : decode cX12_level 5 = .ok (.iload_n 1, 1) := by decide +kernel
theorem dX12_level_6 : decode cX12_level 6 = .ok (.i2l, 1) := by decide +kernel
theorem dX12_level_7 : decode cX12_level 7 = .ok (.lconst 0, 1) := by decide +kernel
theorem dX12_level_8 : decode cX12_level 8 = .ok (.ldc2_w 369, 3) := by decide +kernel
theorem dX12_level_11 : decode cX12_level 11 = .ok (.invokestatic 122, 3) := by decide +kernel
theorem dX12_level_14 : decode cX12_level 14 = .ok (.ifCond .ne 5, 3) := by decide +kernel
theorem dX12_level_17 : decode cX12_level 17 = .ok (.iconst (-1), 1) := by decide +kernel
theorem dX12_level_18 : decode cX12_level 18 = .ok (.ireturn, 1) := by decide +kernel
theorem dX12_level_19 : decode cX12_level 19 = .ok (.aload_n 0, 1) := by decide +kernel
theorem dX12_level_20 : decode cX12_level 20 = .ok (.aload_n 0, 1) := by decide +kernel
theorem dX12_level_21 : decode cX12_level 21 = .ok (.getfield 36, 3) := by decide +kernel
theorem dX12_level_24 : decode cX12_level 24 = .ok (.aload_n 0, 1) := by decide +kernel
theorem dX12_level_25 : decode cX12_level 25 = .ok (.getfield 36, 3) := by decide +kernel
theorem dX12_level_28 : decode cX12_level 28 = .ok (.bipush 42, 2) := by decide +kernel
theorem dX12_level_30 : decode cX12_level 30 = .ok (.iaload, 1) := by decide +kernel
theorem dX12_level_31 : decode cX12_level 31 = .ok (.iload_n 1, 1) := by decide +kernel
theorem dX12_level_32 : decode cX12_level 32 = .ok (.iadd, 1) := by decide +kernel
theorem dX12_level_33 : decode cX12_level 33 = .ok (.invokevirtual 316, 3) := by decide +kernel
theorem dX12_level_36 : decode cX12_level 36 = .ok (.istore_n 2, 1) := by decide +kernel
theorem dX12_level_37 : decode cX12_level 37 = .ok (.aload_n 0, 1) := by decide +kernel
theorem dX12_level_38 : decode cX12_level 38 = .ok (.iconst 0, 1) := by decide +kernel
theorem dX12_level_39 : decode cX12_level 39 = .ok (.putfield 119, 3) := by decide +kernel
theorem dX12_level_42 : decode cX12_level 42 = .ok (.aload_n 0, 1) := by decide +kernel
theorem dX12_level_43 : decode cX12_level 43 = .ok (.aload_n 0, 1) := by decide +kernel
theorem dX12_level_44 : decode cX12_level 44 = .ok (.aload_n 0, 1) := by decide +kernel
theorem dX12_level_45 : decode cX12_level 45 = .ok (.getfield 36, 3) := by decide +kernel
theorem dX12_level_48 : decode cX12_level 48 = .ok (.iload_n 2, 1) := by decide +kernel
theorem dX12_level_49 : decode cX12_level 49 = .ok (.invokevirtual 322, 3) := by decide +kernel
theorem dX12_level_52 : decode cX12_level 52 = .ok (.i2l, 1) := by decide +kernel
theorem dX12_level_53 : decode cX12_level 53 = .ok (.invokevirtual 359, 3) := by decide +kernel
theorem dX12_level_56 : decode cX12_level 56 = .ok (.iload_n 2, 1) := by decide +kernel
theorem dX12_level_57 : decode cX12_level 57 = .ok (.ireturn, 1) := by decide +kernel
theorem dX12_breaksIn_0 : decode cX12_breaksIn 0 = .ok (.iconst 1, 1) := by decide +kernel
theorem dX12_breaksIn_1 : decode cX12_breaksIn 1 = .ok (.istore_n 1, 1) := by decide +kernel
theorem dX12_breaksIn_2 : decode cX12_breaksIn 2 = .ok (.iload_n 1, 1) := by decide +kernel
theorem dX12_breaksIn_3 : decode cX12_breaksIn 3 = .ok (.bipush 99, 2) := by decide +kernel
theorem dX12_breaksIn_5 : decode cX12_breaksIn 5 = .ok (.if_icmp .gt 30, 3) := by decide +kernel
theorem dX12_breaksIn_8 : decode cX12_breaksIn 8 = .ok (.aload_n 0, 1) := by decide +kernel
theorem dX12_breaksIn_9 : decode cX12_breaksIn 9 = .ok (.aload_n 0, 1) := by decide +kernel
theorem dX12_breaksIn_10 : decode cX12_breaksIn 10 = .ok (.aload_n 0, 1) := by decide +kernel
theorem dX12_breaksIn_11 : decode cX12_breaksIn 11 = .ok (.getfield 39, 3) := by decide +kernel
theorem dX12_breaksIn_14 : decode cX12_breaksIn 14 = .ok (.invokevirtual 366, 3) := by decide +kernel
theorem dX12_breaksIn_17 : decode cX12_breaksIn 17 = .ok (.putfield 389, 3) := by decide +kernel
theorem dX12_breaksIn_20 : decode cX12_breaksIn 20 = .ok (.aload_n 0, 1) := by decide +kernel
theorem dX12_breaksIn_21 : decode cX12_breaksIn 21 = .ok (.getfield 389, 3) := by decide +kernel
theorem dX12_breaksIn_24 : decode cX12_breaksIn 24 = .ok (.ifCond .eq 5, 3) := by decide +kernel
theorem dX12_breaksIn_27 : decode cX12_breaksIn 27 = .ok (.iload_n 1, 1) := by decide +kernel
theorem dX12_breaksIn_28 : decode cX12_breaksIn 28 = .ok (.ireturn, 1) := by decide +kernel
theorem dX12_breaksIn_29 : decode cX12_breaksIn 29 = .ok (.iinc 1 1, 3) := by decide +kernel
theorem dX12_breaksIn_32 : decode cX12_breaksIn 32 = .ok (.goto (-30), 3) := by decide +kernel
theorem dX12_breaksIn_35 : decode cX12_breaksIn 35 = .ok (.bipush 100, 2) := by decide +kernel
theorem dX12_breaksIn_37 : decode cX12_breaksIn 37 = .ok (.ireturn, 1) := by decide +kernel
theorem dX12_holds_0 : decode cX12_holds 0 = .ok (.aload_n 0, 1) := by decide +kernel
theorem dX12_holds_1 : decode cX12_holds 1 = .ok (.iconst 0, 1) := by decide +kernel
theorem dX12_holds_2 : decode cX12_holds 2 = .ok (.putfield 112, 3) := by decide +kernel
theorem dX12_holds_5 : decode cX12_holds 5 = .ok (.aload_n 0, 1) := by decide +kernel
theorem dX12_holds_6 : decode cX12_holds 6 = .ok (.invokevirtual 392, 3) := by decide +kernel
theorem dX12_holds_9 : decode cX12_holds 9 = .ok (.aload_n 0, 1) := by decide +kernel
theorem dX12_holds_10 : decode cX12_holds 10 = .ok (.invokevirtual 395, 3) := by decide +kernel
theorem dX12_holds_13 : decode cX12_holds 13 = .ok (.istore_n 1, 1) := by decide +kernel
theorem dX12_holds_14 : decode cX12_holds 14 = .ok (.iload_n 1, 1) := by decide +kernel
theorem dX12_holds_15 : decode cX12_holds 15 = .ok (.bipush 99, 2) := by decide +kernel
theorem dX12_holds_17 : decode cX12_holds 17 = .ok (.if_icmp .le 6, 3) := by decide +kernel
theorem dX12_holds_20 : decode cX12_holds 20 = .ok (.bipush (-2), 2) := by decide +kernel
theorem dX12_holds_22 : decode cX12_holds 22 = .ok (.ireturn, 1) := by decide +kernel
theorem dX12_holds_23 : decode cX12_holds 23 = .ok (.aload_n 0, 1) := by decide +kernel
theorem dX12_holds_24 : decode cX12_holds 24 = .ok (.iconst 0, 1) := by decide +kernel
theorem dX12_holds_25 : decode cX12_holds 25 = .ok (.putfield 119, 3) := by decide +kernel
theorem dX12_holds_28 : decode cX12_holds 28 = .ok (.aload_n 0, 1) := by decide +kernel
theorem dX12_holds_29 : decode cX12_holds 29 = .ok (.aload_n 0, 1) := by decide +kernel
theorem dX12_holds_30 : decode cX12_holds 30 = .ok (.getfield 389, 3) := by decide +kernel
theorem dX12_holds_33 : decode cX12_holds 33 = .ok (.i2l, 1) := by decide +kernel
theorem dX12_holds_34 : decode cX12_holds 34 = .ok (.invokevirtual 359, 3) := by decide +kernel
theorem dX12_holds_37 : decode cX12_holds 37 = .ok (.aload_n 0, 1) := by decide +kernel
theorem dX12_holds_38 : decode cX12_holds 38 = .ok (.aload_n 0, 1) := by decide +kernel
theorem dX12_holds_39 : decode cX12_holds 39 = .ok (.getfield 319, 3) := by decide +kernel
theorem dX12_holds_42 : decode cX12_holds 42 = .ok (.i2l, 1) := by decide +kernel
theorem dX12_holds_43 : decode cX12_holds 43 = .ok (.invokevirtual 359, 3) := by decide +kernel
theorem dX12_holds_46 : decode cX12_holds 46 = .ok (.iload_n 1, 1) := by decide +kernel
theorem dX12_holds_47 : decode cX12_holds 47 = .ok (.ireturn, 1) := by decide +kernel
theorem dX12_breakMany_0 : decode cX12_breakMany 0 = .ok (.iconst 0, 1) := by decide +kernel
theorem dX12_breakMany_1 : decode cX12_breakMany 1 = .ok (.istore_n 2, 1) := by decide +kernel
theorem dX12_breakMany_2 : decode cX12_breakMany 2 = .ok (.aload_n 0, 1) := by decide +kernel
theorem dX12_breakMany_3 : decode cX12_breakMany 3 = .ok (.invokevirtual 392, 3) := by decide +kernel
theorem dX12_breakMany_6 : decode cX12_breakMany 6 = .ok (.iconst 0, 1) := by decide +kernel
theorem dX12_breakMany_7 : decode cX12_breakMany 7 = .ok (.istore_n 3, 1) := by decide +kernel
theorem dX12_breakMany_8 : decode cX12_breakMany 8 = .ok (.iload_n 3, 1) := by decide +kernel
theorem dX12_breakMany_9 : decode cX12_breakMany 9 = .ok (.iload_n 1, 1) := by decide +kernel
theorem dX12_breakMany_10 : decode cX12_breakMany 10 = .ok (.if_icmp .ge 31, 3) := by decide +kernel
theorem dX12_breakMany_13 : decode cX12_breakMany 13 = .ok (.iload_n 2, 1) := by decide +kernel
theorem dX12_breakMany_14 : decode cX12_breakMany 14 = .ok (.aload_n 0, 1) := by decide +kernel
theorem dX12_breakMany_15 : decode cX12_breakMany 15 = .ok (.aload_n 0, 1) := by decide +kernel
theorem dX12_breakMany_16 : decode cX12_breakMany 16 = .ok (.getfield 39, 3) := by decide +kernel
theorem dX12_breakMany_19 : decode cX12_breakMany 19 = .ok (.invokevirtual 366, 3) := by decide +kernel
theorem dX12_breakMany_22 : decode cX12_breakMany 22 = .ok (.ifCond .eq 7, 3) := by decide +kernel
theorem dX12_breakMany_25 : decode cX12_breakMany 25 = .ok (.iconst 1, 1) := by decide +kernel
theorem dX12_breakMany_26 : decode cX12_breakMany 26 = .ok (.goto 4, 3) := by decide +kernel
theorem dX12_breakMany_29 : decode cX12_breakMany 29 = .ok (.iconst 0, 1) := by decide +kernel
theorem dX12_breakMany_30 : decode cX12_breakMany 30 = .ok (.invokestatic 151, 3) := by decide +kernel
theorem dX12_breakMany_33 : decode cX12_breakMany 33 = .ok (.iadd, 1) := by decide +kernel
theorem dX12_breakMany_34 : decode cX12_breakMany 34 = .ok (.istore_n 2, 1) := by decide +kernel
theorem dX12_breakMany_35 : decode cX12_breakMany 35 = .ok (.iinc 3 1, 3) := by decide +kernel
theorem dX12_breakMany_38 : decode cX12_breakMany 38 = .ok (.goto (-30), 3) := by decide +kernel
theorem dX12_breakMany_41 : decode cX12_breakMany 41 = .ok (.iload_n 2, 1) := by decide +kernel
theorem dX12_breakMany_42 : decode cX12_breakMany 42 = .ok (.ireturn, 1) := by decide +kernel
theorem dX12_tides_0 : decode cX12_tides 0 = .ok (.aload_n 0, 1) := by decide +kernel
theorem dX12_tides_1 : decode cX12_tides 1 = .ok (.iconst 0, 1) := by decide +kernel
theorem dX12_tides_2 : decode cX12_tides 2 = .ok (.putfield 112, 3) := by decide +kernel
theorem dX12_tides_5 : decode cX12_tides 5 = .ok (.iload_n 1, 1) := by decide +kernel
theorem dX12_tides_6 : decode cX12_tides 6 = .ok (.i2l, 1) := by decide +kernel
theorem dX12_tides_7 : decode cX12_tides 7 = .ok (.lconst 0, 1) := by decide +kernel
theorem dX12_tides_8 : decode cX12_tides 8 = .ok (.ldc2_w 398, 3) := by decide +kernel
theorem dX12_tides_11 : decode cX12_tides 11 = .ok (.invokestatic 122, 3) := by decide +kernel
theorem dX12_tides_14 : decode cX12_tides 14 = .ok (.ifCond .ne 5, 3) := by decide +kernel
theorem dX12_tides_17 : decode cX12_tides 17 = .ok (.iconst (-1), 1) := by decide +kernel
theorem dX12_tides_18 : decode cX12_tides 18 = .ok (.ireturn, 1) := by decide +kernel
theorem dX12_tides_19 : decode cX12_tides 19 = .ok (.aload_n 0, 1) := by decide +kernel
theorem dX12_tides_20 : decode cX12_tides 20 = .ok (.iload_n 1, 1) := by decide +kernel
theorem dX12_tides_21 : decode cX12_tides 21 = .ok (.invokevirtual 400, 3) := by decide +kernel
theorem dX12_tides_24 : decode cX12_tides 24 = .ok (.istore_n 2, 1) := by decide +kernel
theorem dX12_tides_25 : decode cX12_tides 25 = .ok (.aload_n 0, 1) := by decide +kernel
theorem dX12_tides_26 : decode cX12_tides 26 = .ok (.iconst 0, 1) := by decide +kernel
theorem dX12_tides_27 : decode cX12_tides 27 = .ok (.putfield 119, 3) := by decide +kernel
theorem dX12_tides_30 : decode cX12_tides 30 = .ok (.aload_n 0, 1) := by decide +kernel
theorem dX12_tides_31 : decode cX12_tides 31 = .ok (.aload_n 0, 1) := by decide +kernel
theorem dX12_tides_32 : decode cX12_tides 32 = .ok (.aload_n 0, 1) := by decide +kernel
theorem dX12_tides_33 : decode cX12_tides 33 = .ok (.getfield 39, 3) := by decide +kernel
theorem dX12_tides_36 : decode cX12_tides 36 = .ok (.invokevirtual 371, 3) := by decide +kernel
theorem dX12_tides_39 : decode cX12_tides 39 = .ok (.invokestatic 251, 3) := by decide +kernel
theorem dX12_tides_42 : decode cX12_tides 42 = .ok (.i2l, 1) := by decide +kernel
theorem dX12_tides_43 : decode cX12_tides 43 = .ok (.invokevirtual 359, 3) := by decide +kernel
theorem dX12_tides_46 : decode cX12_tides 46 = .ok (.aload_n 0, 1) := by decide +kernel
theorem dX12_tides_47 : decode cX12_tides 47 = .ok (.aload_n 0, 1) := by decide +kernel
theorem dX12_tides_48 : decode cX12_tides 48 = .ok (.aload_n 0, 1) := by decide +kernel
theorem dX12_tides_49 : decode cX12_tides 49 = .ok (.getfield 39, 3) := by decide +kernel
theorem dX12_tides_52 : decode cX12_tides 52 = .ok (.invokevirtual 363, 3) := by decide +kernel
theorem dX12_tides_55 : decode cX12_tides 55 = .ok (.i2l, 1) := by decide +kernel
theorem dX12_tides_56 : decode cX12_tides 56 = .ok (.invokevirtual 359, 3) := by decide +kernel
theorem dX12_tides_59 : decode cX12_tides 59 = .ok (.iload_n 2, 1) := by decide +kernel
theorem dX12_tides_60 : decode cX12_tides 60 = .ok (.ireturn, 1) := by decide +kernel
theorem dX12_isHigh_0 : decode cX12_isHigh 0 = .ok (.aload_n 0, 1) := by decide +kernel
theorem dX12_isHigh_1 : decode cX12_isHigh 1 = .ok (.aload_n 1, 1) := by decide +kernel
theorem dX12_isHigh_2 : decode cX12_isHigh 2 = .ok (.aload_n 0, 1) := by decide +kernel
theorem dX12_isHigh_3 : decode cX12_isHigh 3 = .ok (.aload_n 1, 1) := by decide +kernel
theorem dX12_isHigh_4 : decode cX12_isHigh 4 = .ok (.aload_n 1, 1) := by decide +kernel
theorem dX12_isHigh_5 : decode cX12_isHigh 5 = .ok (.bipush 42, 2) := by decide +kernel
theorem dX12_isHigh_7 : decode cX12_isHigh 7 = .ok (.iaload, 1) := by decide +kernel
theorem dX12_isHigh_8 : decode cX12_isHigh 8 = .ok (.invokevirtual 316, 3) := by decide +kernel
theorem dX12_isHigh_11 : decode cX12_isHigh 11 = .ok (.invokevirtual 322, 3) := by decide +kernel
theorem dX12_isHigh_14 : decode cX12_isHigh 14 = .ok (.ifCond .ne 7, 3) := by decide +kernel
theorem dX12_isHigh_17 : decode cX12_isHigh 17 = .ok (.iconst 1, 1) := by decide +kernel
theorem dX12_isHigh_18 : decode cX12_isHigh 18 = .ok (.goto 4, 3) := by decide +kernel
theorem dX12_isHigh_21 : decode cX12_isHigh 21 = .ok (.iconst 0, 1) := by decide +kernel
theorem dX12_isHigh_22 : decode cX12_isHigh 22 = .ok (.ireturn, 1) := by decide +kernel
theorem dX12_spells_0 : decode cX12_spells 0 = .ok (.aload_n 0, 1) := by decide +kernel
theorem dX12_spells_1 : decode cX12_spells 1 = .ok (.iconst 0, 1) := by decide +kernel
theorem dX12_spells_2 : decode cX12_spells 2 = .ok (.putfield 112, 3) := by decide +kernel
theorem dX12_spells_5 : decode cX12_spells 5 = .ok (.aload_n 0, 1) := by decide +kernel
theorem dX12_spells_6 : decode cX12_spells 6 = .ok (.invokevirtual 392, 3) := by decide +kernel
theorem dX12_spells_9 : decode cX12_spells 9 = .ok (.iconst 0, 1) := by decide +kernel
theorem dX12_spells_10 : decode cX12_spells 10 = .ok (.istore_n 1, 1) := by decide +kernel
theorem dX12_spells_11 : decode cX12_spells 11 = .ok (.iload_n 1, 1) := by decide +kernel
theorem dX12_spells_12 : decode cX12_spells 12 = .ok (.bipush 30, 2) := by decide +kernel
theorem dX12_spells_14 : decode cX12_spells 14 = .ok (.if_icmp .gt 30, 3) := by decide +kernel
theorem dX12_spells_17 : decode cX12_spells 17 = .ok (.aload_n 0, 1) := by decide +kernel
theorem dX12_spells_18 : decode cX12_spells 18 = .ok (.aload_n 0, 1) := by decide +kernel
theorem dX12_spells_19 : decode cX12_spells 19 = .ok (.getfield 39, 3) := by decide +kernel
theorem dX12_spells_22 : decode cX12_spells 22 = .ok (.invokevirtual 403, 3) := by decide +kernel
theorem dX12_spells_25 : decode cX12_spells 25 = .ok (.ifCond .eq 5, 3) := by decide +kernel
theorem dX12_spells_28 : decode cX12_spells 28 = .ok (.iload_n 1, 1) := by decide +kernel
theorem dX12_spells_29 : decode cX12_spells 29 = .ok (.ireturn, 1) := by decide +kernel
theorem dX12_spells_30 : decode cX12_spells 30 = .ok (.aload_n 0, 1) := by decide +kernel
theorem dX12_spells_31 : decode cX12_spells 31 = .ok (.aload_n 0, 1) := by decide +kernel
theorem dX12_spells_32 : decode cX12_spells 32 = .ok (.getfield 39, 3) := by decide +kernel
theorem dX12_spells_35 : decode cX12_spells 35 = .ok (.invokevirtual 312, 3) := by decide +kernel
theorem dX12_spells_38 : decode cX12_spells 38 = .ok (.iinc 1 1, 3) := by decide +kernel
theorem dX12_spells_41 : decode cX12_spells 41 = .ok (.goto (-30), 3) := by decide +kernel
theorem dX12_spells_44 : decode cX12_spells 44 = .ok (.bipush (-2), 2) := by decide +kernel
theorem dX12_spells_46 : decode cX12_spells 46 = .ok (.ireturn, 1) := by decide +kernel
theorem dX12_floodsFrom_0 : decode cX12_floodsFrom 0 = .ok (.iconst 0, 1) := by decide +kernel
theorem dX12_floodsFrom_1 : decode cX12_floodsFrom 1 = .ok (.istore_n 3, 1) := by decide +kernel
theorem dX12_floodsFrom_2 : decode cX12_floodsFrom 2 = .ok (.iload_n 3, 1) := by decide +kernel
theorem dX12_floodsFrom_3 : decode cX12_floodsFrom 3 = .ok (.aload_n 0, 1) := by decide +kernel
theorem dX12_floodsFrom_4 : decode cX12_floodsFrom 4 = .ok (.getfield 13, 3) := by decide +kernel
theorem dX12_floodsFrom_7 : decode cX12_floodsFrom 7 = .ok (.if_icmp .ge 28, 3) := by decide +kernel
theorem dX12_floodsFrom_10 : decode cX12_floodsFrom 10 = .ok (.aload_n 0, 1) := by decide +kernel
theorem dX12_floodsFrom_11 : decode cX12_floodsFrom 11 = .ok (.getfield 39, 3) := by decide +kernel
theorem dX12_floodsFrom_14 : decode cX12_floodsFrom 14 = .ok (.bipush 13, 2) := by decide +kernel
theorem dX12_floodsFrom_16 : decode cX12_floodsFrom 16 = .ok (.iload_n 3, 1) := by decide +kernel
theorem dX12_floodsFrom_17 : decode cX12_floodsFrom 17 = .ok (.iadd, 1) := by decide +kernel
theorem dX12_floodsFrom_18 : decode cX12_floodsFrom 18 = .ok (.iload_n 3, 1) := by decide +kernel
theorem dX12_floodsFrom_19 : decode cX12_floodsFrom 19 = .ok (.iload_n 1, 1) := by decide +kernel
theorem dX12_floodsFrom_20 : decode cX12_floodsFrom 20 = .ok (.if_icmp .ne 7, 3) := by decide +kernel
theorem dX12_floodsFrom_23 : decode cX12_floodsFrom 23 = .ok (.iload_n 2, 1) := by decide +kernel
theorem dX12_floodsFrom_24 : decode cX12_floodsFrom 24 = .ok (.goto 4, 3) := by decide +kernel
theorem dX12_floodsFrom_27 : decode cX12_floodsFrom 27 = .ok (.iconst 0, 1) := by decide +kernel
theorem dX12_floodsFrom_28 : decode cX12_floodsFrom 28 = .ok (.iastore, 1) := by decide +kernel
theorem dX12_floodsFrom_29 : decode cX12_floodsFrom 29 = .ok (.iinc 3 1, 3) := by decide +kernel
theorem dX12_floodsFrom_32 : decode cX12_floodsFrom 32 = .ok (.goto (-30), 3) := by decide +kernel
theorem dX12_floodsFrom_35 : decode cX12_floodsFrom 35 = .ok (.aload_n 0, 1) := by decide +kernel
theorem dX12_floodsFrom_36 : decode cX12_floodsFrom 36 = .ok (.aload_n 0, 1) := by decide +kernel
theorem dX12_floodsFrom_37 : decode cX12_floodsFrom 37 = .ok (.getfield 39, 3) := by decide +kernel
theorem dX12_floodsFrom_40 : decode cX12_floodsFrom 40 = .ok (.invokevirtual 325, 3) := by decide +kernel
theorem dX12_floodsFrom_43 : decode cX12_floodsFrom 43 = .ok (.return_, 1) := by decide +kernel
theorem dX12_canFlood_0 : decode cX12_canFlood 0 = .ok (.aload_n 0, 1) := by decide +kernel
theorem dX12_canFlood_1 : decode cX12_canFlood 1 = .ok (.iload_n 1, 1) := by decide +kernel
theorem dX12_canFlood_2 : decode cX12_canFlood 2 = .ok (.invokevirtual 280, 3) := by decide +kernel
theorem dX12_canFlood_5 : decode cX12_canFlood 5 = .ok (.ifCond .eq 19, 3) := by decide +kernel
theorem dX12_canFlood_8 : decode cX12_canFlood 8 = .ok (.iload_n 2, 1) := by decide +kernel
theorem dX12_canFlood_9 : decode cX12_canFlood 9 = .ok (.i2l, 1) := by decide +kernel
theorem dX12_canFlood_10 : decode cX12_canFlood 10 = .ok (.lconst 1, 1) := by decide +kernel
theorem dX12_canFlood_11 : decode cX12_canFlood 11 = .ok (.ldc2_w 407, 3) := by decide +kernel
theorem dX12_canFlood_14 : decode cX12_canFlood 14 = .ok (.invokestatic 122, 3) := by decide +kernel
theorem dX12_canFlood_17 : decode cX12_canFlood 17 = .ok (.ifCond .eq 7, 3) := by decide +kernel
theorem dX12_canFlood_20 : decode cX12_canFlood 20 = .ok (.iconst 1, 1) := by decide +kernel
theorem dX12_canFlood_21 : decode cX12_canFlood 21 = .ok (.goto 4, 3) := by decide +kernel
theorem dX12_canFlood_24 : decode cX12_canFlood 24 = .ok (.iconst 0, 1) := by decide +kernel
theorem dX12_canFlood_25 : decode cX12_canFlood 25 = .ok (.ireturn, 1) := by decide +kernel
theorem dX12_floods_0 : decode cX12_floods 0 = .ok (.aload_n 0, 1) := by decide +kernel
theorem dX12_floods_1 : decode cX12_floods 1 = .ok (.iconst 0, 1) := by decide +kernel
theorem dX12_floods_2 : decode cX12_floods 2 = .ok (.putfield 112, 3) := by decide +kernel
theorem dX12_floods_5 : decode cX12_floods 5 = .ok (.aload_n 0, 1) := by decide +kernel
theorem dX12_floods_6 : decode cX12_floods 6 = .ok (.iload_n 1, 1) := by decide +kernel
theorem dX12_floods_7 : decode cX12_floods 7 = .ok (.iload_n 2, 1) := by decide +kernel
theorem dX12_floods_8 : decode cX12_floods 8 = .ok (.invokevirtual 409, 3) := by decide +kernel
theorem dX12_floods_11 : decode cX12_floods 11 = .ok (.ifCond .ne 5, 3) := by decide +kernel
theorem dX12_floods_14 : decode cX12_floods 14 = .ok (.iconst (-1), 1) := by decide +kernel
theorem dX12_floods_15 : decode cX12_floods 15 = .ok (.ireturn, 1) := by decide +kernel
theorem dX12_floods_16 : decode cX12_floods 16 = .ok (.aload_n 0, 1) := by decide +kernel
theorem dX12_floods_17 : decode cX12_floods 17 = .ok (.iload_n 1, 1) := by decide +kernel
theorem dX12_floods_18 : decode cX12_floods 18 = .ok (.iload_n 2, 1) := by decide +kernel
theorem dX12_floods_19 : decode cX12_floods 19 = .ok (.invokevirtual 412, 3) := by decide +kernel
theorem dX12_floods_22 : decode cX12_floods 22 = .ok (.aload_n 0, 1) := by decide +kernel
theorem dX12_floods_23 : decode cX12_floods 23 = .ok (.iconst 0, 1) := by decide +kernel
theorem dX12_floods_24 : decode cX12_floods 24 = .ok (.putfield 119, 3) := by decide +kernel
theorem dX12_floods_27 : decode cX12_floods 27 = .ok (.aload_n 0, 1) := by decide +kernel
theorem dX12_floods_28 : decode cX12_floods 28 = .ok (.aload_n 0, 1) := by decide +kernel
theorem dX12_floods_29 : decode cX12_floods 29 = .ok (.aload_n 0, 1) := by decide +kernel
theorem dX12_floods_30 : decode cX12_floods 30 = .ok (.getfield 39, 3) := by decide +kernel
theorem dX12_floods_33 : decode cX12_floods 33 = .ok (.invokevirtual 371, 3) := by decide +kernel
theorem dX12_floods_36 : decode cX12_floods 36 = .ok (.invokestatic 251, 3) := by decide +kernel
theorem dX12_floods_39 : decode cX12_floods 39 = .ok (.i2l, 1) := by decide +kernel
theorem dX12_floods_40 : decode cX12_floods 40 = .ok (.invokevirtual 359, 3) := by decide +kernel
theorem dX12_floods_43 : decode cX12_floods 43 = .ok (.aload_n 0, 1) := by decide +kernel
theorem dX12_floods_44 : decode cX12_floods 44 = .ok (.aload_n 0, 1) := by decide +kernel
theorem dX12_floods_45 : decode cX12_floods 45 = .ok (.aload_n 0, 1) := by decide +kernel
theorem dX12_floods_46 : decode cX12_floods 46 = .ok (.getfield 39, 3) := by decide +kernel
theorem dX12_floods_49 : decode cX12_floods 49 = .ok (.invokevirtual 363, 3) := by decide +kernel
theorem dX12_floods_52 : decode cX12_floods 52 = .ok (.i2l, 1) := by decide +kernel
theorem dX12_floods_53 : decode cX12_floods 53 = .ok (.invokevirtual 359, 3) := by decide +kernel
theorem dX12_floods_56 : decode cX12_floods 56 = .ok (.aload_n 0, 1) := by decide +kernel
theorem dX12_floods_57 : decode cX12_floods 57 = .ok (.aload_n 0, 1) := by decide +kernel
theorem dX12_floods_58 : decode cX12_floods 58 = .ok (.getfield 39, 3) := by decide +kernel
theorem dX12_floods_61 : decode cX12_floods 61 = .ok (.invokevirtual 371, 3) := by decide +kernel
theorem dX12_floods_64 : decode cX12_floods 64 = .ok (.ireturn, 1) := by decide +kernel
theorem dX12_raise_0 : decode cX12_raise 0 = .ok (.aload_n 0, 1) := by decide +kernel
theorem dX12_raise_1 : decode cX12_raise 1 = .ok (.iconst 0, 1) := by decide +kernel
theorem dX12_raise_2 : decode cX12_raise 2 = .ok (.putfield 112, 3) := by decide +kernel
theorem dX12_raise_5 : decode cX12_raise 5 = .ok (.aload_n 0, 1) := by decide +kernel
theorem dX12_raise_6 : decode cX12_raise 6 = .ok (.iload_n 1, 1) := by decide +kernel
theorem dX12_raise_7 : decode cX12_raise 7 = .ok (.iload_n 2, 1) := by decide +kernel
theorem dX12_raise_8 : decode cX12_raise 8 = .ok (.invokevirtual 409, 3) := by decide +kernel
theorem dX12_raise_11 : decode cX12_raise 11 = .ok (.ifCond .ne 5, 3) := by decide +kernel
theorem dX12_raise_14 : decode cX12_raise 14 = .ok (.iconst (-1), 1) := by decide +kernel
theorem dX12_raise_15 : decode cX12_raise 15 = .ok (.ireturn, 1) := by decide +kernel
theorem dX12_raise_16 : decode cX12_raise 16 = .ok (.iconst 0, 1) := by decide +kernel
theorem dX12_raise_17 : decode cX12_raise 17 = .ok (.istore_n 3, 1) := by decide +kernel
theorem dX12_raise_18 : decode cX12_raise 18 = .ok (.iload_n 3, 1) := by decide +kernel
theorem dX12_raise_19 : decode cX12_raise 19 = .ok (.bipush 12, 2) := by decide +kernel
theorem dX12_raise_21 : decode cX12_raise 21 = .ok (.if_icmp .ge 21, 3) := by decide +kernel
theorem dX12_raise_24 : decode cX12_raise 24 = .ok (.aload_n 0, 1) := by decide +kernel
theorem dX12_raise_25 : decode cX12_raise 25 = .ok (.getfield 75, 3) := by decide +kernel
theorem dX12_raise_28 : decode cX12_raise 28 = .ok (.iload_n 3, 1) := by decide +kernel
theorem dX12_raise_29 : decode cX12_raise 29 = .ok (.aload_n 0, 1) := by decide +kernel
theorem dX12_raise_30 : decode cX12_raise 30 = .ok (.getfield 21, 3) := by decide +kernel
theorem dX12_raise_33 : decode cX12_raise 33 = .ok (.iload_n 3, 1) := by decide +kernel
theorem dX12_raise_34 : decode cX12_raise 34 = .ok (.iaload, 1) := by decide +kernel
theorem dX12_raise_35 : decode cX12_raise 35 = .ok (.iastore, 1) := by decide +kernel
theorem dX12_raise_36 : decode cX12_raise 36 = .ok (.iinc 3 1, 3) := by decide +kernel
theorem dX12_raise_39 : decode cX12_raise 39 = .ok (.goto (-21), 3) := by decide +kernel
theorem dX12_raise_42 : decode cX12_raise 42 = .ok (.iconst (-1), 1) := by decide +kernel
theorem dX12_raise_43 : decode cX12_raise 43 = .ok (.istore_n 3, 1) := by decide +kernel
theorem dX12_raise_44 : decode cX12_raise 44 = .ok (.iconst 0, 1) := by decide +kernel
theorem dX12_raise_45 : decode cX12_raise 45 = .ok (.istore 4, 2) := by decide +kernel
theorem dX12_raise_47 : decode cX12_raise 47 = .ok (.iload 4, 2) := by decide +kernel
theorem dX12_raise_49 : decode cX12_raise 49 = .ok (.iconst 1, 1) := by decide +kernel
theorem dX12_raise_50 : decode cX12_raise 50 = .ok (.aload_n 0, 1) := by decide +kernel
theorem dX12_raise_51 : decode cX12_raise 51 = .ok (.getfield 13, 3) := by decide +kernel
theorem dX12_raise_54 : decode cX12_raise 54 = .ok (.iconst 1, 1) := by decide +kernel
theorem dX12_raise_55 : decode cX12_raise 55 = .ok (.isub, 1) := by decide +kernel
theorem dX12_raise_56 : decode cX12_raise 56 = .ok (.ishl, 1) := by decide +kernel
theorem dX12_raise_57 : decode cX12_raise 57 = .ok (.if_icmp .ge 101, 3) := by decide +kernel
theorem dX12_raise_60 : decode cX12_raise 60 = .ok (.iload_n 3, 1) := by decide +kernel
theorem dX12_raise_61 : decode cX12_raise 61 = .ok (.ifCond .lt 15, 3) := by decide +kernel
theorem dX12_raise_64 : decode cX12_raise 64 = .ok (.iload 4, 2) := by decide +kernel
theorem dX12_raise_66 : decode cX12_raise 66 = .ok (.invokestatic 251, 3) := by decide +kernel
theorem dX12_raise_69 : decode cX12_raise 69 = .ok (.iload_n 3, 1) := by decide +kernel
theorem dX12_raise_70 : decode cX12_raise 70 = .ok (.invokestatic 251, 3) := by decide +kernel
theorem dX12_raise_73 : decode cX12_raise 73 = .ok (.if_icmp .ge 79, 3) := by decide +kernel
theorem dX12_raise_76 : decode cX12_raise 76 = .ok (.iconst 0, 1) := by decide +kernel
theorem dX12_raise_77 : decode cX12_raise 77 = .ok (.istore 5, 2) := by decide +kernel
theorem dX12_raise_79 : decode cX12_raise 79 = .ok (.iload 5, 2) := by decide +kernel
theorem dX12_raise_81 : decode cX12_raise 81 = .ok (.aload_n 0, 1) := by decide +kernel
theorem dX12_raise_82 : decode cX12_raise 82 = .ok (.getfield 13, 3) := by decide +kernel
theorem dX12_raise_85 : decode cX12_raise 85 = .ok (.iconst 1, 1) := by decide +kernel
theorem dX12_raise_86 : decode cX12_raise 86 = .ok (.isub, 1) := by decide +kernel
theorem dX12_raise_87 : decode cX12_raise 87 = .ok (.if_icmp .ge 38, 3) := by decide +kernel
theorem dX12_raise_90 : decode cX12_raise 90 = .ok (.aload_n 0, 1) := by decide +kernel
theorem dX12_raise_91 : decode cX12_raise 91 = .ok (.getfield 21, 3) := by decide +kernel
theorem dX12_raise_94 : decode cX12_raise 94 = .ok (.iload 5, 2) := by decide +kernel
theorem dX12_raise_96 : decode cX12_raise 96 = .ok (.iload 4, 2) := by decide +kernel
theorem dX12_raise_98 : decode cX12_raise 98 = .ok (.iload 5, 2) := by decide +kernel
theorem dX12_raise_100 : decode cX12_raise 100 = .ok (.invokestatic 269, 3) := by decide +kernel
theorem dX12_raise_103 : decode cX12_raise 103 = .ok (.ifCond .eq 8, 3) := by decide +kernel
theorem dX12_raise_106 : decode cX12_raise 106 = .ok (.bipush 9, 2) := by decide +kernel
theorem dX12_raise_108 : decode cX12_raise 108 = .ok (.goto 10, 3) := by decide +kernel
theorem dX12_raise_111 : decode cX12_raise 111 = .ok (.aload_n 0, 1) := by decide +kernel
theorem dX12_raise_112 : decode cX12_raise 112 = .ok (.getfield 75, 3) := by decide +kernel
theorem dX12_raise_115 : decode cX12_raise 115 = .ok (.iload 5, 2) := by decide +kernel
theorem dX12_raise_117 : decode cX12_raise 117 = .ok (.iaload, 1) := by decide +kernel
theorem dX12_raise_118 : decode cX12_raise 118 = .ok (.iastore, 1) := by decide +kernel
theorem dX12_raise_119 : decode cX12_raise 119 = .ok (.iinc 5 1, 3) := by decide +kernel
theorem dX12_raise_122 : decode cX12_raise 122 = .ok (.goto (-43), 3) := by decide +kernel
theorem dX12_raise_125 : decode cX12_raise 125 = .ok (.aload_n 0, 1) := by decide +kernel
theorem dX12_raise_126 : decode cX12_raise 126 = .ok (.iload_n 1, 1) := by decide +kernel
theorem dX12_raise_127 : decode cX12_raise 127 = .ok (.iload_n 2, 1) := by decide +kernel
theorem dX12_raise_128 : decode cX12_raise 128 = .ok (.invokevirtual 412, 3) := by decide +kernel
theorem dX12_raise_131 : decode cX12_raise 131 = .ok (.aload_n 0, 1) := by decide +kernel
theorem dX12_raise_132 : decode cX12_raise 132 = .ok (.aload_n 0, 1) := by decide +kernel
theorem dX12_raise_133 : decode cX12_raise 133 = .ok (.getfield 39, 3) := by decide +kernel
theorem dX12_raise_136 : decode cX12_raise 136 = .ok (.invokevirtual 371, 3) := by decide +kernel
theorem dX12_raise_139 : decode cX12_raise 139 = .ok (.iconst 1, 1) := by decide +kernel
theorem dX12_raise_140 : decode cX12_raise 140 = .ok (.iload_n 1, 1) := by decide +kernel
theorem dX12_raise_141 : decode cX12_raise 141 = .ok (.ishl, 1) := by decide +kernel
theorem dX12_raise_142 : decode cX12_raise 142 = .ok (.if_icmp .ne 8, 3) := by decide +kernel
theorem dX12_raise_145 : decode cX12_raise 145 = .ok (.iload 4, 2) := by decide +kernel
theorem dX12_raise_147 : decode cX12_raise 147 = .ok (.goto 4, 3) := by decide +kernel
theorem dX12_raise_150 : decode cX12_raise 150 = .ok (.iload_n 3, 1) := by decide +kernel
theorem dX12_raise_151 : decode cX12_raise 151 = .ok (.istore_n 3, 1) := by decide +kernel
theorem dX12_raise_152 : decode cX12_raise 152 = .ok (.iinc 4 1, 3) := by decide +kernel
theorem dX12_raise_155 : decode cX12_raise 155 = .ok (.goto (-108), 3) := by decide +kernel
theorem dX12_raise_158 : decode cX12_raise 158 = .ok (.iconst 0, 1) := by decide +kernel
theorem dX12_raise_159 : decode cX12_raise 159 = .ok (.istore 4, 2) := by decide +kernel
theorem dX12_raise_161 : decode cX12_raise 161 = .ok (.iload 4, 2) := by decide +kernel
theorem dX12_raise_163 : decode cX12_raise 163 = .ok (.bipush 12, 2) := by decide +kernel
theorem dX12_raise_165 : decode cX12_raise 165 = .ok (.if_icmp .ge 23, 3) := by decide +kernel
theorem dX12_raise_168 : decode cX12_raise 168 = .ok (.aload_n 0, 1) := by decide +kernel
theorem dX12_raise_169 : decode cX12_raise 169 = .ok (.getfield 21, 3) := by decide +kernel
theorem dX12_raise_172 : decode cX12_raise 172 = .ok (.iload 4, 2) := by decide +kernel
theorem dX12_raise_174 : decode cX12_raise 174 = .ok (.aload_n 0, 1) := by decide +kernel
theorem dX12_raise_175 : decode cX12_raise 175 = .ok (.getfield 75, 3) := by decide +kernel
theorem dX12_raise_178 : decode cX12_raise 178 = .ok (.iload 4, 2) := by decide +kernel
theorem dX12_raise_180 : decode cX12_raise 180 = .ok (.iaload, 1) := by decide +kernel
theorem dX12_raise_181 : decode cX12_raise 181 = .ok (.iastore, 1) := by decide +kernel
theorem dX12_raise_182 : decode cX12_raise 182 = .ok (.iinc 4 1, 3) := by decide +kernel
theorem dX12_raise_185 : decode cX12_raise 185 = .ok (.goto (-24), 3) := by decide +kernel
theorem dX12_raise_188 : decode cX12_raise 188 = .ok (.iload_n 3, 1) := by decide +kernel
theorem dX12_raise_189 : decode cX12_raise 189 = .ok (.ifCond .ge 6, 3) := by decide +kernel
theorem dX12_raise_192 : decode cX12_raise 192 = .ok (.bipush (-2), 2) := by decide +kernel
theorem dX12_raise_194 : decode cX12_raise 194 = .ok (.ireturn, 1) := by decide +kernel
theorem dX12_raise_195 : decode cX12_raise 195 = .ok (.aload_n 0, 1) := by decide +kernel
theorem dX12_raise_196 : decode cX12_raise 196 = .ok (.iconst 0, 1) := by decide +kernel
theorem dX12_raise_197 : decode cX12_raise 197 = .ok (.putfield 119, 3) := by decide +kernel
theorem dX12_raise_200 : decode cX12_raise 200 = .ok (.aload_n 0, 1) := by decide +kernel
theorem dX12_raise_201 : decode cX12_raise 201 = .ok (.iload_n 3, 1) := by decide +kernel
theorem dX12_raise_202 : decode cX12_raise 202 = .ok (.i2l, 1) := by decide +kernel
theorem dX12_raise_203 : decode cX12_raise 203 = .ok (.invokevirtual 359, 3) := by decide +kernel
theorem dX12_raise_206 : decode cX12_raise 206 = .ok (.iload_n 3, 1) := by decide +kernel
theorem dX12_raise_207 : decode cX12_raise 207 = .ok (.invokestatic 251, 3) := by decide +kernel
theorem dX12_raise_210 : decode cX12_raise 210 = .ok (.ireturn, 1) := by decide +kernel
theorem dX12_crewHolds_0 : decode cX12_crewHolds 0 = .ok (.aload_n 0, 1) := by decide +kernel
theorem dX12_crewHolds_1 : decode cX12_crewHolds 1 = .ok (.invokevirtual 392, 3) := by decide +kernel
theorem dX12_crewHolds_4 : decode cX12_crewHolds 4 = .ok (.iconst 0, 1) := by decide +kernel
theorem dX12_crewHolds_5 : decode cX12_crewHolds 5 = .ok (.istore_n 2, 1) := by decide +kernel
theorem dX12_crewHolds_6 : decode cX12_crewHolds 6 = .ok (.iload_n 2, 1) := by decide +kernel
theorem dX12_crewHolds_7 : decode cX12_crewHolds 7 = .ok (.aload_n 0, 1) := by decide +kernel
theorem dX12_crewHolds_8 : decode cX12_crewHolds 8 = .ok (.getfield 126, 3) := by decide +kernel
theorem dX12_crewHolds_11 : decode cX12_crewHolds 11 = .ok (.if_icmp .ge 28, 3) := by decide +kernel
theorem dX12_crewHolds_14 : decode cX12_crewHolds 14 = .ok (.aload_n 0, 1) := by decide +kernel
theorem dX12_crewHolds_15 : decode cX12_crewHolds 15 = .ok (.getfield 39, 3) := by decide +kernel
theorem dX12_crewHolds_18 : decode cX12_crewHolds 18 = .ok (.bipush 25, 2) := by decide +kernel
theorem dX12_crewHolds_20 : decode cX12_crewHolds 20 = .ok (.iconst 2, 1) := by decide +kernel
theorem dX12_crewHolds_21 : decode cX12_crewHolds 21 = .ok (.iload_n 2, 1) := by decide +kernel
theorem dX12_crewHolds_22 : decode cX12_crewHolds 22 = .ok (.imul, 1) := by decide +kernel
theorem dX12_crewHolds_23 : decode cX12_crewHolds 23 = .ok (.iadd, 1) := by decide +kernel
theorem dX12_crewHolds_24 : decode cX12_crewHolds 24 = .ok (.iconst 0, 1) := by decide +kernel
theorem dX12_crewHolds_25 : decode cX12_crewHolds 25 = .ok (.iadd, 1) := by decide +kernel
theorem dX12_crewHolds_26 : decode cX12_crewHolds 26 = .ok (.aload_n 0, 1) := by decide +kernel
theorem dX12_crewHolds_27 : decode cX12_crewHolds 27 = .ok (.getfield 78, 3) := by decide +kernel
theorem dX12_crewHolds_30 : decode cX12_crewHolds 30 = .ok (.iload_n 2, 1) := by decide +kernel
theorem dX12_crewHolds_31 : decode cX12_crewHolds 31 = .ok (.iaload, 1) := by decide +kernel
theorem dX12_crewHolds_32 : decode cX12_crewHolds 32 = .ok (.iastore, 1) := by decide +kernel
theorem dX12_crewHolds_33 : decode cX12_crewHolds 33 = .ok (.iinc 2 1, 3) := by decide +kernel
theorem dX12_crewHolds_36 : decode cX12_crewHolds 36 = .ok (.goto (-30), 3) := by decide +kernel
theorem dX12_crewHolds_39 : decode cX12_crewHolds 39 = .ok (.aload_n 0, 1) := by decide +kernel
theorem dX12_crewHolds_40 : decode cX12_crewHolds 40 = .ok (.aload_n 0, 1) := by decide +kernel
theorem dX12_crewHolds_41 : decode cX12_crewHolds 41 = .ok (.getfield 39, 3) := by decide +kernel
theorem dX12_crewHolds_44 : decode cX12_crewHolds 44 = .ok (.iload_n 1, 1) := by decide +kernel
theorem dX12_crewHolds_45 : decode cX12_crewHolds 45 = .ok (.invokevirtual 356, 3) := by decide +kernel
theorem dX12_crewHolds_48 : decode cX12_crewHolds 48 = .ok (.aload_n 0, 1) := by decide +kernel
theorem dX12_crewHolds_49 : decode cX12_crewHolds 49 = .ok (.aload_n 0, 1) := by decide +kernel
theorem dX12_crewHolds_50 : decode cX12_crewHolds 50 = .ok (.getfield 39, 3) := by decide +kernel
theorem dX12_crewHolds_53 : decode cX12_crewHolds 53 = .ok (.invokevirtual 403, 3) := by decide +kernel
theorem dX12_crewHolds_56 : decode cX12_crewHolds 56 = .ok (.ireturn, 1) := by decide +kernel
theorem dX12_crewsFrom_0 : decode cX12_crewsFrom 0 = .ok (.iload_n 3, 1) := by decide +kernel
theorem dX12_crewsFrom_1 : decode cX12_crewsFrom 1 = .ok (.aload_n 0, 1) := by decide +kernel
theorem dX12_crewsFrom_2 : decode cX12_crewsFrom 2 = .ok (.getfield 416, 3) := by decide +kernel
theorem dX12_crewsFrom_5 : decode cX12_crewsFrom 5 = .ok (.if_icmp .lt 4, 3) := by decide +kernel
theorem dX12_crewsFrom_8 : decode cX12_crewsFrom 8 = .ok (.return_, 1) := by decide +kernel
theorem dX12_crewsFrom_9 : decode cX12_crewsFrom 9 = .ok (.iload_n 1, 1) := by decide +kernel
theorem dX12_crewsFrom_10 : decode cX12_crewsFrom 10 = .ok (.aload_n 0, 1) := by decide +kernel
theorem dX12_crewsFrom_11 : decode cX12_crewsFrom 11 = .ok (.getfield 126, 3) := by decide +kernel
theorem dX12_crewsFrom_14 : decode cX12_crewsFrom 14 = .ok (.if_icmp .ne 50, 3) := by decide +kernel
theorem dX12_crewsFrom_17 : decode cX12_crewsFrom 17 = .ok (.aload_n 0, 1) := by decide +kernel
theorem dX12_crewsFrom_18 : decode cX12_crewsFrom 18 = .ok (.iload 4, 2) := by decide +kernel
theorem dX12_crewsFrom_20 : decode cX12_crewsFrom 20 = .ok (.invokevirtual 419, 3) := by decide +kernel
theorem dX12_crewsFrom_23 : decode cX12_crewsFrom 23 = .ok (.ifCond .eq 40, 3) := by decide +kernel
theorem dX12_crewsFrom_26 : decode cX12_crewsFrom 26 = .ok (.aload_n 0, 1) := by decide +kernel
theorem dX12_crewsFrom_27 : decode cX12_crewsFrom 27 = .ok (.iload_n 3, 1) := by decide +kernel
theorem dX12_crewsFrom_28 : decode cX12_crewsFrom 28 = .ok (.putfield 416, 3) := by decide +kernel
theorem dX12_crewsFrom_31 : decode cX12_crewsFrom 31 = .ok (.iconst 0, 1) := by decide +kernel
theorem dX12_crewsFrom_32 : decode cX12_crewsFrom 32 = .ok (.istore 5, 2) := by decide +kernel
theorem dX12_crewsFrom_34 : decode cX12_crewsFrom 34 = .ok (.iload 5, 2) := by decide +kernel
theorem dX12_crewsFrom_36 : decode cX12_crewsFrom 36 = .ok (.aload_n 0, 1) := by decide +kernel
theorem dX12_crewsFrom_37 : decode cX12_crewsFrom 37 = .ok (.getfield 126, 3) := by decide +kernel
theorem dX12_crewsFrom_40 : decode cX12_crewsFrom 40 = .ok (.if_icmp .ge 23, 3) := by decide +kernel
theorem dX12_crewsFrom_43 : decode cX12_crewsFrom 43 = .ok (.aload_n 0, 1) := by decide +kernel
theorem dX12_crewsFrom_44 : decode cX12_crewsFrom 44 = .ok (.getfield 81, 3) := by decide +kernel
theorem dX12_crewsFrom_47 : decode cX12_crewsFrom 47 = .ok (.iload 5, 2) := by decide +kernel
theorem dX12_crewsFrom_49 : decode cX12_crewsFrom 49 = .ok (.aload_n 0, 1) := by decide +kernel
theorem dX12_crewsFrom_50 : decode cX12_crewsFrom 50 = .ok (.getfield 78, 3) := by decide +kernel
theorem dX12_crewsFrom_53 : decode cX12_crewsFrom 53 = .ok (.iload 5, 2) := by decide +kernel
theorem dX12_crewsFrom_55 : decode cX12_crewsFrom 55 = .ok (.iaload, 1) := by decide +kernel
theorem dX12_crewsFrom_56 : decode cX12_crewsFrom 56 = .ok (.iastore, 1) := by decide +kernel
theorem dX12_crewsFrom_57 : decode cX12_crewsFrom 57 = .ok (.iinc 5 1, 3) := by decide +kernel
theorem dX12_crewsFrom_60 : decode cX12_crewsFrom 60 = .ok (.goto (-26), 3) := by decide +kernel
theorem dX12_crewsFrom_63 : decode cX12_crewsFrom 63 = .ok (.return_, 1) := by decide +kernel
theorem dX12_crewsFrom_64 : decode cX12_crewsFrom 64 = .ok (.aload_n 0, 1) := by decide +kernel
theorem dX12_crewsFrom_65 : decode cX12_crewsFrom 65 = .ok (.getfield 78, 3) := by decide +kernel
theorem dX12_crewsFrom_68 : decode cX12_crewsFrom 68 = .ok (.iload_n 1, 1) := by decide +kernel
theorem dX12_crewsFrom_69 : decode cX12_crewsFrom 69 = .ok (.iconst (-1), 1) := by decide +kernel
theorem dX12_crewsFrom_70 : decode cX12_crewsFrom 70 = .ok (.iastore, 1) := by decide +kernel
theorem dX12_crewsFrom_71 : decode cX12_crewsFrom 71 = .ok (.aload_n 0, 1) := by decide +kernel
theorem dX12_crewsFrom_72 : decode cX12_crewsFrom 72 = .ok (.iload_n 1, 1) := by decide +kernel
theorem dX12_crewsFrom_73 : decode cX12_crewsFrom 73 = .ok (.iconst 1, 1) := by decide +kernel
theorem dX12_crewsFrom_74 : decode cX12_crewsFrom 74 = .ok (.iadd, 1) := by decide +kernel
theorem dX12_crewsFrom_75 : decode cX12_crewsFrom 75 = .ok (.iload_n 2, 1) := by decide +kernel
theorem dX12_crewsFrom_76 : decode cX12_crewsFrom 76 = .ok (.iload_n 3, 1) := by decide +kernel
theorem dX12_crewsFrom_77 : decode cX12_crewsFrom 77 = .ok (.iload 4, 2) := by decide +kernel
theorem dX12_crewsFrom_79 : decode cX12_crewsFrom 79 = .ok (.invokevirtual 422, 3) := by decide +kernel
theorem dX12_crewsFrom_82 : decode cX12_crewsFrom 82 = .ok (.iconst 0, 1) := by decide +kernel
theorem dX12_crewsFrom_83 : decode cX12_crewsFrom 83 = .ok (.istore 5, 2) := by decide +kernel
theorem dX12_crewsFrom_85 : decode cX12_crewsFrom 85 = .ok (.iload 5, 2) := by decide +kernel
theorem dX12_crewsFrom_87 : decode cX12_crewsFrom 87 = .ok (.aload_n 0, 1) := by decide +kernel
theorem dX12_crewsFrom_88 : decode cX12_crewsFrom 88 = .ok (.getfield 13, 3) := by decide +kernel
theorem dX12_crewsFrom_91 : decode cX12_crewsFrom 91 = .ok (.if_icmp .ge 49, 3) := by decide +kernel
theorem dX12_crewsFrom_94 : decode cX12_crewsFrom 94 = .ok (.iload_n 2, 1) := by decide +kernel
theorem dX12_crewsFrom_95 : decode cX12_crewsFrom 95 = .ok (.iload_n 1, 1) := by decide +kernel
theorem dX12_crewsFrom_96 : decode cX12_crewsFrom 96 = .ok (.invokestatic 269, 3) := by decide +kernel
theorem dX12_crewsFrom_99 : decode cX12_crewsFrom 99 = .ok (.ifCond .eq 41, 3) := by decide +kernel
theorem dX12_crewsFrom_102 : decode cX12_crewsFrom 102 = .ok (.aload_n 0, 1) := by decide +kernel
theorem dX12_crewsFrom_103 : decode cX12_crewsFrom 103 = .ok (.getfield 36, 3) := by decide +kernel
theorem dX12_crewsFrom_106 : decode cX12_crewsFrom 106 = .ok (.iload_n 1, 1) := by decide +kernel
theorem dX12_crewsFrom_107 : decode cX12_crewsFrom 107 = .ok (.invokestatic 277, 3) := by decide +kernel
theorem dX12_crewsFrom_110 : decode cX12_crewsFrom 110 = .ok (.ifCond .le 30, 3) := by decide +kernel
theorem dX12_crewsFrom_113 : decode cX12_crewsFrom 113 = .ok (.aload_n 0, 1) := by decide +kernel
theorem dX12_crewsFrom_114 : decode cX12_crewsFrom 114 = .ok (.getfield 78, 3) := by decide +kernel
theorem dX12_crewsFrom_117 : decode cX12_crewsFrom 117 = .ok (.iload_n 1, 1) := by decide +kernel
theorem dX12_crewsFrom_118 : decode cX12_crewsFrom 118 = .ok (.iload 5, 2) := by decide +kernel
theorem dX12_crewsFrom_120 : decode cX12_crewsFrom 120 = .ok (.iastore, 1) := by decide +kernel
theorem dX12_crewsFrom_121 : decode cX12_crewsFrom 121 = .ok (.aload_n 0, 1) := by decide +kernel
theorem dX12_crewsFrom_122 : decode cX12_crewsFrom 122 = .ok (.iload_n 1, 1) := by decide +kernel
theorem dX12_crewsFrom_123 : decode cX12_crewsFrom 123 = .ok (.iconst 1, 1) := by decide +kernel
theorem dX12_crewsFrom_124 : decode cX12_crewsFrom 124 = .ok (.iadd, 1) := by decide +kernel
theorem dX12_crewsFrom_125 : decode cX12_crewsFrom 125 = .ok (.iload_n 2, 1) := by decide +kernel
theorem dX12_crewsFrom_126 : decode cX12_crewsFrom 126 = .ok (.iload_n 3, 1) := by decide +kernel
theorem dX12_crewsFrom_127 : decode cX12_crewsFrom 127 = .ok (.iconst 1, 1) := by decide +kernel
theorem dX12_crewsFrom_128 : decode cX12_crewsFrom 128 = .ok (.iadd, 1) := by decide +kernel
theorem dX12_crewsFrom_129 : decode cX12_crewsFrom 129 = .ok (.iload 4, 2) := by decide +kernel
theorem dX12_crewsFrom_131 : decode cX12_crewsFrom 131 = .ok (.invokevirtual 422, 3) := by decide +kernel
theorem dX12_crewsFrom_134 : decode cX12_crewsFrom 134 = .ok (.iinc 5 1, 3) := by decide +kernel
theorem dX12_crewsFrom_137 : decode cX12_crewsFrom 137 = .ok (.goto (-52), 3) := by decide +kernel
theorem dX12_crewsFrom_140 : decode cX12_crewsFrom 140 = .ok (.return_, 1) := by decide +kernel
theorem dX12_crew_0 : decode cX12_crew 0 = .ok (.aload_n 0, 1) := by decide +kernel
theorem dX12_crew_1 : decode cX12_crew 1 = .ok (.iconst 0, 1) := by decide +kernel
theorem dX12_crew_2 : decode cX12_crew 2 = .ok (.putfield 112, 3) := by decide +kernel
theorem dX12_crew_5 : decode cX12_crew 5 = .ok (.iload_n 1, 1) := by decide +kernel
theorem dX12_crew_6 : decode cX12_crew 6 = .ok (.i2l, 1) := by decide +kernel
theorem dX12_crew_7 : decode cX12_crew 7 = .ok (.lconst 0, 1) := by decide +kernel
theorem dX12_crew_8 : decode cX12_crew 8 = .ok (.iconst 1, 1) := by decide +kernel
theorem dX12_crew_9 : decode cX12_crew 9 = .ok (.aload_n 0, 1) := by decide +kernel
theorem dX12_crew_10 : decode cX12_crew 10 = .ok (.getfield 126, 3) := by decide +kernel
theorem dX12_crew_13 : decode cX12_crew 13 = .ok (.ishl, 1) := by decide +kernel
theorem dX12_crew_14 : decode cX12_crew 14 = .ok (.iconst 1, 1) := by decide +kernel
theorem dX12_crew_15 : decode cX12_crew 15 = .ok (.isub, 1) := by decide +kernel
theorem dX12_crew_16 : decode cX12_crew 16 = .ok (.i2l, 1) := by decide +kernel
theorem dX12_crew_17 : decode cX12_crew 17 = .ok (.invokestatic 122, 3) := by decide +kernel
theorem dX12_crew_20 : decode cX12_crew 20 = .ok (.ifCond .eq 15, 3) := by decide +kernel
theorem dX12_crew_23 : decode cX12_crew 23 = .ok (.iload_n 2, 1) := by decide +kernel
theorem dX12_crew_24 : decode cX12_crew 24 = .ok (.i2l, 1) := by decide +kernel
theorem dX12_crew_25 : decode cX12_crew 25 = .ok (.lconst 1, 1) := by decide +kernel
theorem dX12_crew_26 : decode cX12_crew 26 = .ok (.ldc2_w 302, 3) := by decide +kernel
theorem dX12_crew_29 : decode cX12_crew 29 = .ok (.invokestatic 122, 3) := by decide +kernel
theorem dX12_crew_32 : decode cX12_crew 32 = .ok (.ifCond .ne 5, 3) := by decide +kernel
theorem dX12_crew_35 : decode cX12_crew 35 = .ok (.iconst (-1), 1) := by decide +kernel
theorem dX12_crew_36 : decode cX12_crew 36 = .ok (.ireturn, 1) := by decide +kernel
theorem dX12_crew_37 : decode cX12_crew 37 = .ok (.iload_n 1, 1) := by decide +kernel
theorem dX12_crew_38 : decode cX12_crew 38 = .ok (.invokestatic 251, 3) := by decide +kernel
theorem dX12_crew_41 : decode cX12_crew 41 = .ok (.iconst 4, 1) := by decide +kernel
theorem dX12_crew_42 : decode cX12_crew 42 = .ok (.if_icmp .le 6, 3) := by decide +kernel
theorem dX12_crew_45 : decode cX12_crew 45 = .ok (.bipush (-3), 2) := by decide +kernel
theorem dX12_crew_47 : decode cX12_crew 47 = .ok (.ireturn, 1) := by decide +kernel
theorem dX12_crew_48 : decode cX12_crew 48 = .ok (.aload_n 0, 1) := by decide +kernel
theorem dX12_crew_49 : decode cX12_crew 49 = .ok (.ldc_w 426, 3) := by decide +kernel
theorem dX12_crew_52 : decode cX12_crew 52 = .ok (.putfield 416, 3) := by decide +kernel
theorem dX12_crew_55 : decode cX12_crew 55 = .ok (.aload_n 0, 1) := by decide +kernel
theorem dX12_crew_56 : decode cX12_crew 56 = .ok (.iconst 0, 1) := by decide +kernel
theorem dX12_crew_57 : decode cX12_crew 57 = .ok (.iload_n 1, 1) := by decide +kernel
theorem dX12_crew_58 : decode cX12_crew 58 = .ok (.iconst 0, 1) := by decide +kernel
theorem dX12_crew_59 : decode cX12_crew 59 = .ok (.iload_n 2, 1) := by decide +kernel
theorem dX12_crew_60 : decode cX12_crew 60 = .ok (.invokevirtual 422, 3) := by decide +kernel
theorem dX12_crew_63 : decode cX12_crew 63 = .ok (.aload_n 0, 1) := by decide +kernel
theorem dX12_crew_64 : decode cX12_crew 64 = .ok (.getfield 416, 3) := by decide +kernel
theorem dX12_crew_67 : decode cX12_crew 67 = .ok (.ldc_w 426, 3) := by decide +kernel
theorem dX12_crew_70 : decode cX12_crew 70 = .ok (.if_icmp .ne 6, 3) := by decide +kernel
theorem dX12_crew_73 : decode cX12_crew 73 = .ok (.bipush (-2), 2) := by decide +kernel
theorem dX12_crew_75 : decode cX12_crew 75 = .ok (.ireturn, 1) := by decide +kernel
theorem dX12_crew_76 : decode cX12_crew 76 = .ok (.aload_n 0, 1) := by decide +kernel
theorem dX12_crew_77 : decode cX12_crew 77 = .ok (.iconst 0, 1) := by decide +kernel
theorem dX12_crew_78 : decode cX12_crew 78 = .ok (.putfield 119, 3) := by decide +kernel
theorem dX12_crew_81 : decode cX12_crew 81 = .ok (.iconst 0, 1) := by decide +kernel
theorem dX12_crew_82 : decode cX12_crew 82 = .ok (.istore_n 3, 1) := by decide +kernel
theorem dX12_crew_83 : decode cX12_crew 83 = .ok (.iload_n 3, 1) := by decide +kernel
theorem dX12_crew_84 : decode cX12_crew 84 = .ok (.aload_n 0, 1) := by decide +kernel
theorem dX12_crew_85 : decode cX12_crew 85 = .ok (.getfield 126, 3) := by decide +kernel
theorem dX12_crew_88 : decode cX12_crew 88 = .ok (.if_icmp .ge 20, 3) := by decide +kernel
theorem dX12_crew_91 : decode cX12_crew 91 = .ok (.aload_n 0, 1) := by decide +kernel
theorem dX12_crew_92 : decode cX12_crew 92 = .ok (.aload_n 0, 1) := by decide +kernel
theorem dX12_crew_93 : decode cX12_crew 93 = .ok (.getfield 81, 3) := by decide +kernel
theorem dX12_crew_96 : decode cX12_crew 96 = .ok (.iload_n 3, 1) := by decide +kernel
theorem dX12_crew_97 : decode cX12_crew 97 = .ok (.iaload, 1) := by decide +kernel
theorem dX12_crew_98 : decode cX12_crew 98 = .ok (.i2l, 1) := by decide +kernel
theorem dX12_crew_99 : decode cX12_crew 99 = .ok (.invokevirtual 359, 3) := by decide +kernel
theorem dX12_crew_102 : decode cX12_crew 102 = .ok (.iinc 3 1, 3) := by decide +kernel
theorem dX12_crew_105 : decode cX12_crew 105 = .ok (.goto (-22), 3) := by decide +kernel
theorem dX12_crew_108 : decode cX12_crew 108 = .ok (.aload_n 0, 1) := by decide +kernel
theorem dX12_crew_109 : decode cX12_crew 109 = .ok (.getfield 416, 3) := by decide +kernel
theorem dX12_crew_112 : decode cX12_crew 112 = .ok (.ireturn, 1) := by decide +kernel
theorem dX12_post_0 : decode cX12_post 0 = .ok (.aload_n 0, 1) := by decide +kernel
theorem dX12_post_1 : decode cX12_post 1 = .ok (.iconst 0, 1) := by decide +kernel
theorem dX12_post_2 : decode cX12_post 2 = .ok (.putfield 112, 3) := by decide +kernel
theorem dX12_post_5 : decode cX12_post 5 = .ok (.aload_n 0, 1) := by decide +kernel
theorem dX12_post_6 : decode cX12_post 6 = .ok (.iload_n 1, 1) := by decide +kernel
theorem dX12_post_7 : decode cX12_post 7 = .ok (.invokevirtual 294, 3) := by decide +kernel
theorem dX12_post_10 : decode cX12_post 10 = .ok (.ifCond .eq 15, 3) := by decide +kernel
theorem dX12_post_13 : decode cX12_post 13 = .ok (.iload_n 2, 1) := by decide +kernel
theorem dX12_post_14 : decode cX12_post 14 = .ok (.i2l, 1) := by decide +kernel
theorem dX12_post_15 : decode cX12_post 15 = .ok (.lconst 1, 1) := by decide +kernel
theorem dX12_post_16 : decode cX12_post 16 = .ok (.ldc2_w 302, 3) := by decide +kernel
theorem dX12_post_19 : decode cX12_post 19 = .ok (.invokestatic 122, 3) := by decide +kernel
theorem dX12_post_22 : decode cX12_post 22 = .ok (.ifCond .ne 5, 3) := by decide +kernel
theorem dX12_post_25 : decode cX12_post 25 = .ok (.iconst (-1), 1) := by decide +kernel
theorem dX12_post_26 : decode cX12_post 26 = .ok (.ireturn, 1) := by decide +kernel
theorem dX12_post_27 : decode cX12_post 27 = .ok (.aload_n 0, 1) := by decide +kernel
theorem dX12_post_28 : decode cX12_post 28 = .ok (.getfield 36, 3) := by decide +kernel
theorem dX12_post_31 : decode cX12_post 31 = .ok (.iload_n 1, 1) := by decide +kernel
theorem dX12_post_32 : decode cX12_post 32 = .ok (.invokestatic 277, 3) := by decide +kernel
theorem dX12_post_35 : decode cX12_post 35 = .ok (.ifCond .ne 6, 3) := by decide +kernel
theorem dX12_post_38 : decode cX12_post 38 = .ok (.bipush (-2), 2) := by decide +kernel
theorem dX12_post_40 : decode cX12_post 40 = .ok (.ireturn, 1) := by decide +kernel
theorem dX12_post_41 : decode cX12_post 41 = .ok (.iconst (-1), 1) := by decide +kernel
theorem dX12_post_42 : decode cX12_post 42 = .ok (.istore_n 3, 1) := by decide +kernel
theorem dX12_post_43 : decode cX12_post 43 = .ok (.ldc_w 427, 3) := by decide +kernel
theorem dX12_post_46 : decode cX12_post 46 = .ok (.istore 4, 2) := by decide +kernel
theorem dX12_post_48 : decode cX12_post 48 = .ok (.iconst 0, 1) := by decide +kernel
theorem dX12_post_49 : decode cX12_post 49 = .ok (.istore 5, 2) := by decide +kernel
theorem dX12_post_51 : decode cX12_post 51 = .ok (.iload 5, 2) := by decide +kernel
theorem dX12_post_53 : decode cX12_post 53 = .ok (.aload_n 0, 1) := by decide +kernel
theorem dX12_post_54 : decode cX12_post 54 = .ok (.getfield 13, 3) := by decide +kernel
theorem dX12_post_57 : decode cX12_post 57 = .ok (.if_icmp .ge 120, 3) := by decide +kernel
theorem dX12_post_60 : decode cX12_post 60 = .ok (.aload_n 0, 1) := by decide +kernel
theorem dX12_post_61 : decode cX12_post 61 = .ok (.invokevirtual 392, 3) := by decide +kernel
theorem dX12_post_64 : decode cX12_post 64 = .ok (.aload_n 0, 1) := by decide +kernel
theorem dX12_post_65 : decode cX12_post 65 = .ok (.getfield 39, 3) := by decide +kernel
theorem dX12_post_68 : decode cX12_post 68 = .ok (.bipush 25, 2) := by decide +kernel
theorem dX12_post_70 : decode cX12_post 70 = .ok (.iconst 2, 1) := by decide +kernel
theorem dX12_post_71 : decode cX12_post 71 = .ok (.iload_n 1, 1) := by decide +kernel
theorem dX12_post_72 : decode cX12_post 72 = .ok (.imul, 1) := by decide +kernel
theorem dX12_post_73 : decode cX12_post 73 = .ok (.iadd, 1) := by decide +kernel
theorem dX12_post_74 : decode cX12_post 74 = .ok (.iconst 0, 1) := by decide +kernel
theorem dX12_post_75 : decode cX12_post 75 = .ok (.iadd, 1) := by decide +kernel
theorem dX12_post_76 : decode cX12_post 76 = .ok (.iload 5, 2) := by decide +kernel
theorem dX12_post_78 : decode cX12_post 78 = .ok (.iastore, 1) := by decide +kernel
theorem dX12_post_79 : decode cX12_post 79 = .ok (.aload_n 0, 1) := by decide +kernel
theorem dX12_post_80 : decode cX12_post 80 = .ok (.aload_n 0, 1) := by decide +kernel
theorem dX12_post_81 : decode cX12_post 81 = .ok (.getfield 39, 3) := by decide +kernel
theorem dX12_post_84 : decode cX12_post 84 = .ok (.iload_n 2, 1) := by decide +kernel
theorem dX12_post_85 : decode cX12_post 85 = .ok (.invokevirtual 356, 3) := by decide +kernel
theorem dX12_post_88 : decode cX12_post 88 = .ok (.aload_n 0, 1) := by decide +kernel
theorem dX12_post_89 : decode cX12_post 89 = .ok (.aload_n 0, 1) := by decide +kernel
theorem dX12_post_90 : decode cX12_post 90 = .ok (.getfield 39, 3) := by decide +kernel
theorem dX12_post_93 : decode cX12_post 93 = .ok (.aload_n 0, 1) := by decide +kernel
theorem dX12_post_94 : decode cX12_post 94 = .ok (.getfield 39, 3) := by decide +kernel
theorem dX12_post_97 : decode cX12_post 97 = .ok (.bipush 42, 2) := by decide +kernel
theorem dX12_post_99 : decode cX12_post 99 = .ok (.iaload, 1) := by decide +kernel
theorem dX12_post_100 : decode cX12_post 100 = .ok (.invokevirtual 316, 3) := by decide +kernel
theorem dX12_post_103 : decode cX12_post 103 = .ok (.istore 6, 2) := by decide +kernel
theorem dX12_post_105 : decode cX12_post 105 = .ok (.ldc_w 426, 3) := by decide +kernel
theorem dX12_post_108 : decode cX12_post 108 = .ok (.istore 7, 2) := by decide +kernel
theorem dX12_post_110 : decode cX12_post 110 = .ok (.iconst 0, 1) := by decide +kernel
theorem dX12_post_111 : decode cX12_post 111 = .ok (.istore 8, 2) := by decide +kernel
theorem dX12_post_113 : decode cX12_post 113 = .ok (.iload 8, 2) := by decide +kernel
theorem dX12_post_115 : decode cX12_post 115 = .ok (.aload_n 0, 1) := by decide +kernel
theorem dX12_post_116 : decode cX12_post 116 = .ok (.getfield 13, 3) := by decide +kernel
theorem dX12_post_119 : decode cX12_post 119 = .ok (.if_icmp .ge 29, 3) := by decide +kernel
theorem dX12_post_122 : decode cX12_post 122 = .ok (.iload 7, 2) := by decide +kernel
theorem dX12_post_124 : decode cX12_post 124 = .ok (.aload_n 0, 1) := by decide +kernel
theorem dX12_post_125 : decode cX12_post 125 = .ok (.aload_n 0, 1) := by decide +kernel
theorem dX12_post_126 : decode cX12_post 126 = .ok (.getfield 39, 3) := by decide +kernel
theorem dX12_post_129 : decode cX12_post 129 = .ok (.iload 8, 2) := by decide +kernel
theorem dX12_post_131 : decode cX12_post 131 = .ok (.invokevirtual 291, 3) := by decide +kernel
theorem dX12_post_134 : decode cX12_post 134 = .ok (.iload 6, 2) := by decide +kernel
theorem dX12_post_136 : decode cX12_post 136 = .ok (.isub, 1) := by decide +kernel
theorem dX12_post_137 : decode cX12_post 137 = .ok (.invokestatic 142, 3) := by decide +kernel
theorem dX12_post_140 : decode cX12_post 140 = .ok (.istore 7, 2) := by decide +kernel
theorem dX12_post_142 : decode cX12_post 142 = .ok (.iinc 8 1, 3) := by decide +kernel
theorem dX12_post_145 : decode cX12_post 145 = .ok (.goto (-32), 3) := by decide +kernel
theorem dX12_post_148 : decode cX12_post 148 = .ok (.iload 7, 2) := by decide +kernel
theorem dX12_post_150 : decode cX12_post 150 = .ok (.iload 4, 2) := by decide +kernel
theorem dX12_post_152 : decode cX12_post 152 = .ok (.if_icmp .le 8, 3) := by decide +kernel
theorem dX12_post_155 : decode cX12_post 155 = .ok (.iload 5, 2) := by decide +kernel
theorem dX12_post_157 : decode cX12_post 157 = .ok (.goto 4, 3) := by decide +kernel
theorem dX12_post_160 : decode cX12_post 160 = .ok (.iload_n 3, 1) := by decide +kernel
theorem dX12_post_161 : decode cX12_post 161 = .ok (.istore_n 3, 1) := by decide +kernel
theorem dX12_post_162 : decode cX12_post 162 = .ok (.iload 4, 2) := by decide +kernel
theorem dX12_post_164 : decode cX12_post 164 = .ok (.iload 7, 2) := by decide +kernel
theorem dX12_post_166 : decode cX12_post 166 = .ok (.invokestatic 259, 3) := by decide +kernel
theorem dX12_post_169 : decode cX12_post 169 = .ok (.istore 4, 2) := by decide +kernel
theorem dX12_post_171 : decode cX12_post 171 = .ok (.iinc 5 1, 3) := by decide +kernel
theorem dX12_post_174 : decode cX12_post 174 = .ok (.goto (-123), 3) := by decide +kernel
theorem dX12_post_177 : decode cX12_post 177 = .ok (.aload_n 0, 1) := by decide +kernel
theorem dX12_post_178 : decode cX12_post 178 = .ok (.iconst 0, 1) := by decide +kernel
theorem dX12_post_179 : decode cX12_post 179 = .ok (.putfield 119, 3) := by decide +kernel
theorem dX12_post_182 : decode cX12_post 182 = .ok (.aload_n 0, 1) := by decide +kernel
theorem dX12_post_183 : decode cX12_post 183 = .ok (.sipush 1000, 3) := by decide +kernel
theorem dX12_post_186 : decode cX12_post 186 = .ok (.iload 4, 2) := by decide +kernel
theorem dX12_post_188 : decode cX12_post 188 = .ok (.iadd, 1) := by decide +kernel
theorem dX12_post_189 : decode cX12_post 189 = .ok (.i2l, 1) := by decide +kernel
theorem dX12_post_190 : decode cX12_post 190 = .ok (.invokevirtual 359, 3) := by decide +kernel
theorem dX12_post_193 : decode cX12_post 193 = .ok (.iload_n 3, 1) := by decide +kernel
theorem dX12_post_194 : decode cX12_post 194 = .ok (.ireturn, 1) := by decide +kernel
theorem dX12_moats_0 : decode cX12_moats 0 = .ok (.aload_n 0, 1) := by decide +kernel
theorem dX12_moats_1 : decode cX12_moats 1 = .ok (.iconst 0, 1) := by decide +kernel
theorem dX12_moats_2 : decode cX12_moats 2 = .ok (.putfield 112, 3) := by decide +kernel
theorem dX12_moats_5 : decode cX12_moats 5 = .ok (.iload_n 1, 1) := by decide +kernel
theorem dX12_moats_6 : decode cX12_moats 6 = .ok (.i2l, 1) := by decide +kernel
theorem dX12_moats_7 : decode cX12_moats 7 = .ok (.lconst 0, 1) := by decide +kernel
theorem dX12_moats_8 : decode cX12_moats 8 = .ok (.ldc2_w 428, 3) := by decide +kernel
theorem dX12_moats_11 : decode cX12_moats 11 = .ok (.invokestatic 122, 3) := by decide +kernel
theorem dX12_moats_14 : decode cX12_moats 14 = .ok (.ifCond .ne 5, 3) := by decide +kernel
theorem dX12_moats_17 : decode cX12_moats 17 = .ok (.iconst (-1), 1) := by decide +kernel
theorem dX12_moats_18 : decode cX12_moats 18 = .ok (.ireturn, 1) := by decide +kernel
theorem dX12_moats_19 : decode cX12_moats 19 = .ok (.iload_n 1, 1) := by decide +kernel
theorem dX12_moats_20 : decode cX12_moats 20 = .ok (.aload_n 0, 1) := by decide +kernel
theorem dX12_moats_21 : decode cX12_moats 21 = .ok (.getfield 13, 3) := by decide +kernel
theorem dX12_moats_24 : decode cX12_moats 24 = .ok (.if_icmp .le 6, 3) := by decide +kernel
theorem dX12_moats_27 : decode cX12_moats 27 = .ok (.bipush (-2), 2) := by decide +kernel
theorem dX12_moats_29 : decode cX12_moats 29 = .ok (.ireturn, 1) := by decide +kernel
theorem dX12_moats_30 : decode cX12_moats 30 = .ok (.iconst (-1), 1) := by decide +kernel
theorem dX12_moats_31 : decode cX12_moats 31 = .ok (.istore_n 2, 1) := by decide +kernel
theorem dX12_moats_32 : decode cX12_moats 32 = .ok (.iconst (-1), 1) := by decide +kernel
theorem dX12_moats_33 : decode cX12_moats 33 = .ok (.istore_n 3, 1) := by decide +kernel
theorem dX12_moats_34 : decode cX12_moats 34 = .ok (.iconst 0, 1) := by decide +kernel
theorem dX12_moats_35 : decode cX12_moats 35 = .ok (.istore 4, 2) := by decide +kernel
theorem dX12_moats_37 : decode cX12_moats 37 = .ok (.iload 4, 2) := by decide +kernel
theorem dX12_moats_39 : decode cX12_moats 39 = .ok (.iconst 1, 1) := by decide +kernel
theorem dX12_moats_40 : decode cX12_moats 40 = .ok (.aload_n 0, 1) := by decide +kernel
theorem dX12_moats_41 : decode cX12_moats 41 = .ok (.getfield 13, 3) := by decide +kernel
theorem dX12_moats_44 : decode cX12_moats 44 = .ok (.ishl, 1) := by decide +kernel
theorem dX12_moats_45 : decode cX12_moats 45 = .ok (.if_icmp .ge 57, 3) := by decide +kernel
theorem dX12_moats_48 : decode cX12_moats 48 = .ok (.iload 4, 2) := by decide +kernel
theorem dX12_moats_50 : decode cX12_moats 50 = .ok (.invokestatic 251, 3) := by decide +kernel
theorem dX12_moats_53 : decode cX12_moats 53 = .ok (.iload_n 1, 1) := by decide +kernel
theorem dX12_moats_54 : decode cX12_moats 54 = .ok (.if_icmp .ne 42, 3) := by decide +kernel
theorem dX12_moats_57 : decode cX12_moats 57 = .ok (.aload_n 0, 1) := by decide +kernel
theorem dX12_moats_58 : decode cX12_moats 58 = .ok (.invokevirtual 392, 3) := by decide +kernel
theorem dX12_moats_61 : decode cX12_moats 61 = .ok (.aload_n 0, 1) := by decide +kernel
theorem dX12_moats_62 : decode cX12_moats 62 = .ok (.getfield 39, 3) := by decide +kernel
theorem dX12_moats_65 : decode cX12_moats 65 = .ok (.bipush 12, 2) := by decide +kernel
theorem dX12_moats_67 : decode cX12_moats 67 = .ok (.iload 4, 2) := by decide +kernel
theorem dX12_moats_69 : decode cX12_moats 69 = .ok (.iastore, 1) := by decide +kernel
theorem dX12_moats_70 : decode cX12_moats 70 = .ok (.aload_n 0, 1) := by decide +kernel
theorem dX12_moats_71 : decode cX12_moats 71 = .ok (.invokevirtual 395, 3) := by decide +kernel
theorem dX12_moats_74 : decode cX12_moats 74 = .ok (.istore 5, 2) := by decide +kernel
theorem dX12_moats_76 : decode cX12_moats 76 = .ok (.iload 5, 2) := by decide +kernel
theorem dX12_moats_78 : decode cX12_moats 78 = .ok (.iload_n 3, 1) := by decide +kernel
theorem dX12_moats_79 : decode cX12_moats 79 = .ok (.if_icmp .le 8, 3) := by decide +kernel
theorem dX12_moats_82 : decode cX12_moats 82 = .ok (.iload 4, 2) := by decide +kernel
theorem dX12_moats_84 : decode cX12_moats 84 = .ok (.goto 4, 3) := by decide +kernel
theorem dX12_moats_87 : decode cX12_moats 87 = .ok (.iload_n 2, 1) := by decide +kernel
theorem dX12_moats_88 : decode cX12_moats 88 = .ok (.istore_n 2, 1) := by decide +kernel
theorem dX12_moats_89 : decode cX12_moats 89 = .ok (.iload_n 3, 1) := by decide +kernel
theorem dX12_moats_90 : decode cX12_moats 90 = .ok (.iload 5, 2) := by decide +kernel
theorem dX12_moats_92 : decode cX12_moats 92 = .ok (.invokestatic 259, 3) := by decide +kernel
theorem dX12_moats_95 : decode cX12_moats 95 = .ok (.istore_n 3, 1) := by decide +kernel
theorem dX12_moats_96 : decode cX12_moats 96 = .ok (.iinc 4 1, 3) := by decide +kernel
theorem dX12_moats_99 : decode cX12_moats 99 = .ok (.goto (-62), 3) := by decide +kernel
theorem dX12_moats_102 : decode cX12_moats 102 = .ok (.aload_n 0, 1) := by decide +kernel
theorem dX12_moats_103 : decode cX12_moats 103 = .ok (.iconst 0, 1) := by decide +kernel
theorem dX12_moats_104 : decode cX12_moats 104 = .ok (.putfield 119, 3) := by decide +kernel
theorem dX12_moats_107 : decode cX12_moats 107 = .ok (.aload_n 0, 1) := by decide +kernel
theorem dX12_moats_108 : decode cX12_moats 108 = .ok (.iload_n 2, 1) := by decide +kernel
theorem dX12_moats_109 : decode cX12_moats 109 = .ok (.i2l, 1) := by decide +kernel
theorem dX12_moats_110 : decode cX12_moats 110 = .ok (.invokevirtual 359, 3) := by decide +kernel
theorem dX12_moats_113 : decode cX12_moats 113 = .ok (.iload_n 3, 1) := by decide +kernel
theorem dX12_moats_114 : decode cX12_moats 114 = .ok (.ireturn, 1) := by decide +kernel
theorem dX12_bucketsAll_0 : decode cX12_bucketsAll 0 = .ok (.iconst 0, 1) := by decide +kernel
theorem dX12_bucketsAll_1 : decode cX12_bucketsAll 1 = .ok (.istore_n 2, 1) := by decide +kernel
theorem dX12_bucketsAll_2 : decode cX12_bucketsAll 2 = .ok (.iconst 0, 1) := by decide +kernel
theorem dX12_bucketsAll_3 : decode cX12_bucketsAll 3 = .ok (.istore_n 3, 1) := by decide +kernel
theorem dX12_bucketsAll_4 : decode cX12_bucketsAll 4 = .ok (.iload_n 3, 1) := by decide +kernel
theorem dX12_bucketsAll_5 : decode cX12_bucketsAll 5 = .ok (.aload_n 0, 1) := by decide +kernel
theorem dX12_bucketsAll_6 : decode cX12_bucketsAll 6 = .ok (.getfield 126, 3) := by decide +kernel
theorem dX12_bucketsAll_9 : decode cX12_bucketsAll 9 = .ok (.if_icmp .ge 18, 3) := by decide +kernel
theorem dX12_bucketsAll_12 : decode cX12_bucketsAll 12 = .ok (.iload_n 2, 1) := by decide +kernel
theorem dX12_bucketsAll_13 : decode cX12_bucketsAll 13 = .ok (.aload_n 0, 1) := by decide +kernel
theorem dX12_bucketsAll_14 : decode cX12_bucketsAll 14 = .ok (.aload_n 1, 1) := by decide +kernel
theorem dX12_bucketsAll_15 : decode cX12_bucketsAll 15 = .ok (.iload_n 3, 1) := by decide +kernel
theorem dX12_bucketsAll_16 : decode cX12_bucketsAll 16 = .ok (.invokevirtual 297, 3) := by decide +kernel
theorem dX12_bucketsAll_19 : decode cX12_bucketsAll 19 = .ok (.iadd, 1) := by decide +kernel
theorem dX12_bucketsAll_20 : decode cX12_bucketsAll 20 = .ok (.istore_n 2, 1) := by decide +kernel
theorem dX12_bucketsAll_21 : decode cX12_bucketsAll 21 = .ok (.iinc 3 1, 3) := by decide +kernel
theorem dX12_bucketsAll_24 : decode cX12_bucketsAll 24 = .ok (.goto (-20), 3) := by decide +kernel
theorem dX12_bucketsAll_27 : decode cX12_bucketsAll 27 = .ok (.iload_n 2, 1) := by decide +kernel
theorem dX12_bucketsAll_28 : decode cX12_bucketsAll 28 = .ok (.ireturn, 1) := by decide +kernel
theorem dX12_spades_0 : decode cX12_spades 0 = .ok (.aload_n 0, 1) := by decide +kernel
theorem dX12_spades_1 : decode cX12_spades 1 = .ok (.iconst 0, 1) := by decide +kernel
theorem dX12_spades_2 : decode cX12_spades 2 = .ok (.putfield 112, 3) := by decide +kernel
theorem dX12_spades_5 : decode cX12_spades 5 = .ok (.aload_n 0, 1) := by decide +kernel
theorem dX12_spades_6 : decode cX12_spades 6 = .ok (.invokevirtual 392, 3) := by decide +kernel
theorem dX12_spades_9 : decode cX12_spades 9 = .ok (.iconst 0, 1) := by decide +kernel
theorem dX12_spades_10 : decode cX12_spades 10 = .ok (.istore_n 1, 1) := by decide +kernel
theorem dX12_spades_11 : decode cX12_spades 11 = .ok (.iconst (-1), 1) := by decide +kernel
theorem dX12_spades_12 : decode cX12_spades 12 = .ok (.istore_n 2, 1) := by decide +kernel
theorem dX12_spades_13 : decode cX12_spades 13 = .ok (.iconst 0, 1) := by decide +kernel
theorem dX12_spades_14 : decode cX12_spades 14 = .ok (.istore_n 3, 1) := by decide +kernel
theorem dX12_spades_15 : decode cX12_spades 15 = .ok (.iload_n 3, 1) := by decide +kernel
theorem dX12_spades_16 : decode cX12_spades 16 = .ok (.iconst 1, 1) := by decide +kernel
theorem dX12_spades_17 : decode cX12_spades 17 = .ok (.aload_n 0, 1) := by decide +kernel
theorem dX12_spades_18 : decode cX12_spades 18 = .ok (.getfield 126, 3) := by decide +kernel
theorem dX12_spades_21 : decode cX12_spades 21 = .ok (.ishl, 1) := by decide +kernel
theorem dX12_spades_22 : decode cX12_spades 22 = .ok (.if_icmp .ge 92, 3) := by decide +kernel
theorem dX12_spades_25 : decode cX12_spades 25 = .ok (.aload_n 0, 1) := by decide +kernel
theorem dX12_spades_26 : decode cX12_spades 26 = .ok (.getfield 39, 3) := by decide +kernel
theorem dX12_spades_29 : decode cX12_spades 29 = .ok (.bipush 41, 2) := by decide +kernel
theorem dX12_spades_31 : decode cX12_spades 31 = .ok (.iload_n 3, 1) := by decide +kernel
theorem dX12_spades_32 : decode cX12_spades 32 = .ok (.iastore, 1) := by decide +kernel
theorem dX12_spades_33 : decode cX12_spades 33 = .ok (.iload_n 3, 1) := by decide +kernel
theorem dX12_spades_34 : decode cX12_spades 34 = .ok (.invokestatic 251, 3) := by decide +kernel
theorem dX12_spades_37 : decode cX12_spades 37 = .ok (.aload_n 0, 1) := by decide +kernel
theorem dX12_spades_38 : decode cX12_spades 38 = .ok (.getfield 33, 3) := by decide +kernel
theorem dX12_spades_41 : decode cX12_spades 41 = .ok (.iconst 1, 1) := by decide +kernel
theorem dX12_spades_42 : decode cX12_spades 42 = .ok (.iaload, 1) := by decide +kernel
theorem dX12_spades_43 : decode cX12_spades 43 = .ok (.if_icmp .le 7, 3) := by decide +kernel
theorem dX12_spades_46 : decode cX12_spades 46 = .ok (.iconst (-1), 1) := by decide +kernel
theorem dX12_spades_47 : decode cX12_spades 47 = .ok (.goto 11, 3) := by decide +kernel
theorem dX12_spades_50 : decode cX12_spades 50 = .ok (.aload_n 0, 1) := by decide +kernel
theorem dX12_spades_51 : decode cX12_spades 51 = .ok (.aload_n 0, 1) := by decide +kernel
theorem dX12_spades_52 : decode cX12_spades 52 = .ok (.getfield 39, 3) := by decide +kernel
theorem dX12_spades_55 : decode cX12_spades 55 = .ok (.invokevirtual 430, 3) := by decide +kernel
theorem dX12_spades_58 : decode cX12_spades 58 = .ok (.istore 4, 2) := by decide +kernel
theorem dX12_spades_60 : decode cX12_spades 60 = .ok (.iload 4, 2) := by decide +kernel
theorem dX12_spades_62 : decode cX12_spades 62 = .ok (.iload_n 2, 1) := by decide +kernel
theorem dX12_spades_63 : decode cX12_spades 63 = .ok (.if_icmp .gt 20, 3) := by decide +kernel
theorem dX12_spades_66 : decode cX12_spades 66 = .ok (.iload 4, 2) := by decide +kernel
theorem dX12_spades_68 : decode cX12_spades 68 = .ok (.iload_n 2, 1) := by decide +kernel
theorem dX12_spades_69 : decode cX12_spades 69 = .ok (.if_icmp .ne 18, 3) := by decide +kernel
theorem dX12_spades_72 : decode cX12_spades 72 = .ok (.iload_n 3, 1) := by decide +kernel
theorem dX12_spades_73 : decode cX12_spades 73 = .ok (.invokestatic 251, 3) := by decide +kernel
theorem dX12_spades_76 : decode cX12_spades 76 = .ok (.iload_n 1, 1) := by decide +kernel
theorem dX12_spades_77 : decode cX12_spades 77 = .ok (.invokestatic 251, 3) := by decide +kernel
theorem dX12_spades_80 : decode cX12_spades 80 = .ok (.if_icmp .ge 7, 3) := by decide +kernel
theorem dX12_spades_83 : decode cX12_spades 83 = .ok (.iconst 1, 1) := by decide +kernel
theorem dX12_spades_84 : decode cX12_spades 84 = .ok (.goto 4, 3) := by decide +kernel
theorem dX12_spades_87 : decode cX12_spades 87 = .ok (.iconst 0, 1) := by decide +kernel
theorem dX12_spades_88 : decode cX12_spades 88 = .ok (.istore 5, 2) := by decide +kernel
theorem dX12_spades_90 : decode cX12_spades 90 = .ok (.iload 5, 2) := by decide +kernel
theorem dX12_spades_92 : decode cX12_spades 92 = .ok (.ifCond .eq 7, 3) := by decide +kernel
theorem dX12_spades_95 : decode cX12_spades 95 = .ok (.iload_n 3, 1) := by decide +kernel
theorem dX12_spades_96 : decode cX12_spades 96 = .ok (.goto 4, 3) := by decide +kernel
theorem dX12_spades_99 : decode cX12_spades 99 = .ok (.iload_n 1, 1) := by decide +kernel
theorem dX12_spades_100 : decode cX12_spades 100 = .ok (.istore_n 1, 1) := by decide +kernel
theorem dX12_spades_101 : decode cX12_spades 101 = .ok (.iload_n 2, 1) := by decide +kernel
theorem dX12_spades_102 : decode cX12_spades 102 = .ok (.iload 4, 2) := by decide +kernel
theorem dX12_spades_104 : decode cX12_spades 104 = .ok (.invokestatic 259, 3) := by decide +kernel
theorem dX12_spades_107 : decode cX12_spades 107 = .ok (.istore_n 2, 1) := by decide +kernel
theorem dX12_spades_108 : decode cX12_spades 108 = .ok (.iinc 3 1, 3) := by decide +kernel
theorem dX12_spades_111 : decode cX12_spades 111 = .ok (.goto (-96), 3) := by decide +kernel
theorem dX12_spades_114 : decode cX12_spades 114 = .ok (.aload_n 0, 1) := by decide +kernel
theorem dX12_spades_115 : decode cX12_spades 115 = .ok (.iconst 0, 1) := by decide +kernel
theorem dX12_spades_116 : decode cX12_spades 116 = .ok (.putfield 119, 3) := by decide +kernel
theorem dX12_spades_119 : decode cX12_spades 119 = .ok (.aload_n 0, 1) := by decide +kernel
theorem dX12_spades_120 : decode cX12_spades 120 = .ok (.iload_n 1, 1) := by decide +kernel
theorem dX12_spades_121 : decode cX12_spades 121 = .ok (.i2l, 1) := by decide +kernel
theorem dX12_spades_122 : decode cX12_spades 122 = .ok (.invokevirtual 359, 3) := by decide +kernel
theorem dX12_spades_125 : decode cX12_spades 125 = .ok (.iload_n 2, 1) := by decide +kernel
theorem dX12_spades_126 : decode cX12_spades 126 = .ok (.ireturn, 1) := by decide +kernel
theorem dX12_treats_0 : decode cX12_treats 0 = .ok (.aload_n 0, 1) := by decide +kernel
theorem dX12_treats_1 : decode cX12_treats 1 = .ok (.iconst 0, 1) := by decide +kernel
theorem dX12_treats_2 : decode cX12_treats 2 = .ok (.putfield 112, 3) := by decide +kernel
theorem dX12_treats_5 : decode cX12_treats 5 = .ok (.iload_n 1, 1) := by decide +kernel
theorem dX12_treats_6 : decode cX12_treats 6 = .ok (.i2l, 1) := by decide +kernel
theorem dX12_treats_7 : decode cX12_treats 7 = .ok (.lconst 1, 1) := by decide +kernel
theorem dX12_treats_8 : decode cX12_treats 8 = .ok (.ldc2_w 302, 3) := by decide +kernel
theorem dX12_treats_11 : decode cX12_treats 11 = .ok (.invokestatic 122, 3) := by decide +kernel
theorem dX12_treats_14 : decode cX12_treats 14 = .ok (.ifCond .ne 5, 3) := by decide +kernel
theorem dX12_treats_17 : decode cX12_treats 17 = .ok (.iconst (-1), 1) := by decide +kernel
theorem dX12_treats_18 : decode cX12_treats 18 = .ok (.ireturn, 1) := by decide +kernel
theorem dX12_treats_19 : decode cX12_treats 19 = .ok (.iconst 0, 1) := by decide +kernel
theorem dX12_treats_20 : decode cX12_treats 20 = .ok (.istore_n 2, 1) := by decide +kernel
theorem dX12_treats_21 : decode cX12_treats 21 = .ok (.iconst 0, 1) := by decide +kernel
theorem dX12_treats_22 : decode cX12_treats 22 = .ok (.istore_n 3, 1) := by decide +kernel
theorem dX12_treats_23 : decode cX12_treats 23 = .ok (.iload_n 3, 1) := by decide +kernel
theorem dX12_treats_24 : decode cX12_treats 24 = .ok (.aload_n 0, 1) := by decide +kernel
theorem dX12_treats_25 : decode cX12_treats 25 = .ok (.getfield 126, 3) := by decide +kernel
theorem dX12_treats_28 : decode cX12_treats 28 = .ok (.if_icmp .ge 29, 3) := by decide +kernel
theorem dX12_treats_31 : decode cX12_treats 31 = .ok (.aload_n 0, 1) := by decide +kernel
theorem dX12_treats_32 : decode cX12_treats 32 = .ok (.getfield 36, 3) := by decide +kernel
theorem dX12_treats_35 : decode cX12_treats 35 = .ok (.iload_n 3, 1) := by decide +kernel
theorem dX12_treats_36 : decode cX12_treats 36 = .ok (.invokestatic 129, 3) := by decide +kernel
theorem dX12_treats_39 : decode cX12_treats 39 = .ok (.ifCond .lt 12, 3) := by decide +kernel
theorem dX12_treats_42 : decode cX12_treats 42 = .ok (.iload_n 1, 1) := by decide +kernel
theorem dX12_treats_43 : decode cX12_treats 43 = .ok (.bipush 9, 2) := by decide +kernel
theorem dX12_treats_45 : decode cX12_treats 45 = .ok (.if_icmp .ne 6, 3) := by decide +kernel
theorem dX12_treats_48 : decode cX12_treats 48 = .ok (.bipush (-2), 2) := by decide +kernel
theorem dX12_treats_50 : decode cX12_treats 50 = .ok (.ireturn, 1) := by decide +kernel
theorem dX12_treats_51 : decode cX12_treats 51 = .ok (.iinc 3 1, 3) := by decide +kernel
theorem dX12_treats_54 : decode cX12_treats 54 = .ok (.goto (-31), 3) := by decide +kernel
theorem dX12_treats_57 : decode cX12_treats 57 = .ok (.aload_n 0, 1) := by decide +kernel
theorem dX12_treats_58 : decode cX12_treats 58 = .ok (.iconst 0, 1) := by decide +kernel
theorem dX12_treats_59 : decode cX12_treats 59 = .ok (.putfield 119, 3) := by decide +kernel
theorem dX12_treats_62 : decode cX12_treats 62 = .ok (.iconst 0, 1) := by decide +kernel
theorem dX12_treats_63 : decode cX12_treats 63 = .ok (.istore_n 3, 1) := by decide +kernel
theorem dX12_treats_64 : decode cX12_treats 64 = .ok (.iload_n 3, 1) := by decide +kernel
theorem dX12_treats_65 : decode cX12_treats 65 = .ok (.aload_n 0, 1) := by decide +kernel
theorem dX12_treats_66 : decode cX12_treats 66 = .ok (.getfield 126, 3) := by decide +kernel
theorem dX12_treats_69 : decode cX12_treats 69 = .ok (.if_icmp .ge 63, 3) := by decide +kernel
theorem dX12_treats_72 : decode cX12_treats 72 = .ok (.iconst 0, 1) := by decide +kernel
theorem dX12_treats_73 : decode cX12_treats 73 = .ok (.istore 4, 2) := by decide +kernel
theorem dX12_treats_75 : decode cX12_treats 75 = .ok (.aload_n 0, 1) := by decide +kernel
theorem dX12_treats_76 : decode cX12_treats 76 = .ok (.getfield 36, 3) := by decide +kernel
theorem dX12_treats_79 : decode cX12_treats 79 = .ok (.iload_n 3, 1) := by decide +kernel
theorem dX12_treats_80 : decode cX12_treats 80 = .ok (.invokestatic 129, 3) := by decide +kernel
theorem dX12_treats_83 : decode cX12_treats 83 = .ok (.ifCond .lt 31, 3) := by decide +kernel
theorem dX12_treats_86 : decode cX12_treats 86 = .ok (.bipush 9, 2) := by decide +kernel
theorem dX12_treats_88 : decode cX12_treats 88 = .ok (.aload_n 0, 1) := by decide +kernel
theorem dX12_treats_89 : decode cX12_treats 89 = .ok (.getfield 36, 3) := by decide +kernel
theorem dX12_treats_92 : decode cX12_treats 92 = .ok (.iload_n 3, 1) := by decide +kernel
theorem dX12_treats_93 : decode cX12_treats 93 = .ok (.invokestatic 277, 3) := by decide +kernel
theorem dX12_treats_96 : decode cX12_treats 96 = .ok (.iconst 3, 1) := by decide +kernel
theorem dX12_treats_97 : decode cX12_treats 97 = .ok (.iload 4, 2) := by decide +kernel
theorem dX12_treats_99 : decode cX12_treats 99 = .ok (.imul, 1) := by decide +kernel
theorem dX12_treats_100 : decode cX12_treats 100 = .ok (.iadd, 1) := by decide +kernel
theorem dX12_treats_101 : decode cX12_treats 101 = .ok (.invokestatic 142, 3) := by decide +kernel
theorem dX12_treats_104 : decode cX12_treats 104 = .ok (.iload_n 1, 1) := by decide +kernel
theorem dX12_treats_105 : decode cX12_treats 105 = .ok (.if_icmp .gt 9, 3) := by decide +kernel
theorem dX12_treats_108 : decode cX12_treats 108 = .ok (.iinc 4 1, 3) := by decide +kernel
theorem dX12_treats_111 : decode cX12_treats 111 = .ok (.goto (-36), 3) := by decide +kernel
theorem dX12_treats_114 : decode cX12_treats 114 = .ok (.iload_n 2, 1) := by decide +kernel
theorem dX12_treats_115 : decode cX12_treats 115 = .ok (.iload 4, 2) := by decide +kernel
theorem dX12_treats_117 : decode cX12_treats 117 = .ok (.iadd, 1) := by decide +kernel
theorem dX12_treats_118 : decode cX12_treats 118 = .ok (.istore_n 2, 1) := by decide +kernel
theorem dX12_treats_119 : decode cX12_treats 119 = .ok (.aload_n 0, 1) := by decide +kernel
theorem dX12_treats_120 : decode cX12_treats 120 = .ok (.iload 4, 2) := by decide +kernel
theorem dX12_treats_122 : decode cX12_treats 122 = .ok (.i2l, 1) := by decide +kernel
theorem dX12_treats_123 : decode cX12_treats 123 = .ok (.invokevirtual 359, 3) := by decide +kernel
theorem dX12_treats_126 : decode cX12_treats 126 = .ok (.iinc 3 1, 3) := by decide +kernel
theorem dX12_treats_129 : decode cX12_treats 129 = .ok (.goto (-65), 3) := by decide +kernel
theorem dX12_treats_132 : decode cX12_treats 132 = .ok (.iload_n 2, 1) := by decide +kernel
theorem dX12_treats_133 : decode cX12_treats 133 = .ok (.ireturn, 1) := by decide +kernel
theorem dX12_work_0 : decode cX12_work 0 = .ok (.aload_n 0, 1) := by decide +kernel
theorem dX12_work_1 : decode cX12_work 1 = .ok (.iconst 0, 1) := by decide +kernel
theorem dX12_work_2 : decode cX12_work 2 = .ok (.putfield 112, 3) := by decide +kernel
theorem dX12_work_5 : decode cX12_work 5 = .ok (.iload_n 1, 1) := by decide +kernel
theorem dX12_work_6 : decode cX12_work 6 = .ok (.i2l, 1) := by decide +kernel
theorem dX12_work_7 : decode cX12_work 7 = .ok (.lconst 0, 1) := by decide +kernel
theorem dX12_work_8 : decode cX12_work 8 = .ok (.ldc2_w 350, 3) := by decide +kernel
theorem dX12_work_11 : decode cX12_work 11 = .ok (.invokestatic 122, 3) := by decide +kernel
theorem dX12_work_14 : decode cX12_work 14 = .ok (.ifCond .ne 5, 3) := by decide +kernel
theorem dX12_work_17 : decode cX12_work 17 = .ok (.iconst (-1), 1) := by decide +kernel
theorem dX12_work_18 : decode cX12_work 18 = .ok (.ireturn, 1) := by decide +kernel
theorem dX12_work_19 : decode cX12_work 19 = .ok (.aload_n 0, 1) := by decide +kernel
theorem dX12_work_20 : decode cX12_work 20 = .ok (.invokevirtual 392, 3) := by decide +kernel
theorem dX12_work_23 : decode cX12_work 23 = .ok (.aload_n 0, 1) := by decide +kernel
theorem dX12_work_24 : decode cX12_work 24 = .ok (.aload_n 0, 1) := by decide +kernel
theorem dX12_work_25 : decode cX12_work 25 = .ok (.getfield 39, 3) := by decide +kernel
theorem dX12_work_28 : decode cX12_work 28 = .ok (.iload_n 1, 1) := by decide +kernel
theorem dX12_work_29 : decode cX12_work 29 = .ok (.invokevirtual 356, 3) := by decide +kernel
theorem dX12_work_32 : decode cX12_work 32 = .ok (.aload_n 0, 1) := by decide +kernel
theorem dX12_work_33 : decode cX12_work 33 = .ok (.iconst 0, 1) := by decide +kernel
theorem dX12_work_34 : decode cX12_work 34 = .ok (.putfield 119, 3) := by decide +kernel
theorem dX12_work_37 : decode cX12_work 37 = .ok (.iconst 0, 1) := by decide +kernel
theorem dX12_work_38 : decode cX12_work 38 = .ok (.istore_n 2, 1) := by decide +kernel
theorem dX12_work_39 : decode cX12_work 39 = .ok (.iload_n 2, 1) := by decide +kernel
theorem dX12_work_40 : decode cX12_work 40 = .ok (.aload_n 0, 1) := by decide +kernel
theorem dX12_work_41 : decode cX12_work 41 = .ok (.getfield 13, 3) := by decide +kernel
theorem dX12_work_44 : decode cX12_work 44 = .ok (.if_icmp .ge 27, 3) := by decide +kernel
theorem dX12_work_47 : decode cX12_work 47 = .ok (.aload_n 0, 1) := by decide +kernel
theorem dX12_work_48 : decode cX12_work 48 = .ok (.aload_n 0, 1) := by decide +kernel
theorem dX12_work_49 : decode cX12_work 49 = .ok (.getfield 39, 3) := by decide +kernel
theorem dX12_work_52 : decode cX12_work 52 = .ok (.iload_n 2, 1) := by decide +kernel
theorem dX12_work_53 : decode cX12_work 53 = .ok (.iaload, 1) := by decide +kernel
theorem dX12_work_54 : decode cX12_work 54 = .ok (.aload_n 0, 1) := by decide +kernel
theorem dX12_work_55 : decode cX12_work 55 = .ok (.getfield 36, 3) := by decide +kernel
theorem dX12_work_58 : decode cX12_work 58 = .ok (.iload_n 2, 1) := by decide +kernel
theorem dX12_work_59 : decode cX12_work 59 = .ok (.iaload, 1) := by decide +kernel
theorem dX12_work_60 : decode cX12_work 60 = .ok (.isub, 1) := by decide +kernel
theorem dX12_work_61 : decode cX12_work 61 = .ok (.i2l, 1) := by decide +kernel
theorem dX12_work_62 : decode cX12_work 62 = .ok (.invokevirtual 359, 3) := by decide +kernel
theorem dX12_work_65 : decode cX12_work 65 = .ok (.iinc 2 1, 3) := by decide +kernel
theorem dX12_work_68 : decode cX12_work 68 = .ok (.goto (-29), 3) := by decide +kernel
theorem dX12_work_71 : decode cX12_work 71 = .ok (.aload_n 0, 1) := by decide +kernel
theorem dX12_work_72 : decode cX12_work 72 = .ok (.aload_n 0, 1) := by decide +kernel
theorem dX12_work_73 : decode cX12_work 73 = .ok (.getfield 39, 3) := by decide +kernel
theorem dX12_work_76 : decode cX12_work 76 = .ok (.invokevirtual 352, 3) := by decide +kernel
theorem dX12_work_79 : decode cX12_work 79 = .ok (.aload_n 0, 1) := by decide +kernel
theorem dX12_work_80 : decode cX12_work 80 = .ok (.aload_n 0, 1) := by decide +kernel
theorem dX12_work_81 : decode cX12_work 81 = .ok (.getfield 36, 3) := by decide +kernel
theorem dX12_work_84 : decode cX12_work 84 = .ok (.invokevirtual 352, 3) := by decide +kernel
theorem dX12_work_87 : decode cX12_work 87 = .ok (.isub, 1) := by decide +kernel
theorem dX12_work_88 : decode cX12_work 88 = .ok (.ireturn, 1) := by decide +kernel
theorem dX12_law_0 : decode cX12_law 0 = .ok (.aload_n 0, 1) := by decide +kernel
theorem dX12_law_1 : decode cX12_law 1 = .ok (.iconst 0, 1) := by decide +kernel
theorem dX12_law_2 : decode cX12_law 2 = .ok (.putfield 112, 3) := by decide +kernel
theorem dX12_law_5 : decode cX12_law 5 = .ok (.aload_n 0, 1) := by decide +kernel
theorem dX12_law_6 : decode cX12_law 6 = .ok (.invokevirtual 241, 3) := by decide +kernel
theorem dX12_law_9 : decode cX12_law 9 = .ok (.istore_n 1, 1) := by decide +kernel
theorem dX12_law_10 : decode cX12_law 10 = .ok (.iload_n 1, 1) := by decide +kernel
theorem dX12_law_11 : decode cX12_law 11 = .ok (.ifCond .ge 11, 3) := by decide +kernel
theorem dX12_law_14 : decode cX12_law 14 = .ok (.iload_n 1, 1) := by decide +kernel
theorem dX12_law_15 : decode cX12_law 15 = .ok (.iconst 1, 1) := by decide +kernel
theorem dX12_law_16 : decode cX12_law 16 = .ok (.iadd, 1) := by decide +kernel
theorem dX12_law_17 : decode cX12_law 17 = .ok (.sipush 10000, 3) := by decide +kernel
theorem dX12_law_20 : decode cX12_law 20 = .ok (.isub, 1) := by decide +kernel
theorem dX12_law_21 : decode cX12_law 21 = .ok (.ireturn, 1) := by decide +kernel
theorem dX12_law_22 : decode cX12_law 22 = .ok (.aload_n 0, 1) := by decide +kernel
theorem dX12_law_23 : decode cX12_law 23 = .ok (.bipush 20, 2) := by decide +kernel
theorem dX12_law_25 : decode cX12_law 25 = .ok (.invokevirtual 400, 3) := by decide +kernel
theorem dX12_law_28 : decode cX12_law 28 = .ok (.istore_n 2, 1) := by decide +kernel
theorem dX12_law_29 : decode cX12_law 29 = .ok (.aload_n 0, 1) := by decide +kernel
theorem dX12_law_30 : decode cX12_law 30 = .ok (.getfield 238, 3) := by decide +kernel
theorem dX12_law_33 : decode cX12_law 33 = .ok (.istore_n 3, 1) := by decide +kernel
theorem dX12_law_34 : decode cX12_law 34 = .ok (.iconst 0, 1) := by decide +kernel
theorem dX12_law_35 : decode cX12_law 35 = .ok (.istore 4, 2) := by decide +kernel
theorem dX12_law_37 : decode cX12_law 37 = .ok (.iload 4, 2) := by decide +kernel
theorem dX12_law_39 : decode cX12_law 39 = .ok (.aload_n 0, 1) := by decide +kernel
theorem dX12_law_40 : decode cX12_law 40 = .ok (.getfield 238, 3) := by decide +kernel
theorem dX12_law_43 : decode cX12_law 43 = .ok (.if_icmp .ge 23, 3) := by decide +kernel
theorem dX12_law_46 : decode cX12_law 46 = .ok (.aload_n 0, 1) := by decide +kernel
theorem dX12_law_47 : decode cX12_law 47 = .ok (.getfield 84, 3) := by decide +kernel
theorem dX12_law_50 : decode cX12_law 50 = .ok (.iload 4, 2) := by decide +kernel
theorem dX12_law_52 : decode cX12_law 52 = .ok (.aload_n 0, 1) := by decide +kernel
theorem dX12_law_53 : decode cX12_law 53 = .ok (.getfield 48, 3) := by decide +kernel
theorem dX12_law_56 : decode cX12_law 56 = .ok (.iload 4, 2) := by decide +kernel
theorem dX12_law_58 : decode cX12_law 58 = .ok (.iaload, 1) := by decide +kernel
theorem dX12_law_59 : decode cX12_law 59 = .ok (.iastore, 1) := by decide +kernel
theorem dX12_law_60 : decode cX12_law 60 = .ok (.iinc 4 1, 3) := by decide +kernel
theorem dX12_law_63 : decode cX12_law 63 = .ok (.goto (-26), 3) := by decide +kernel
theorem dX12_law_66 : decode cX12_law 66 = .ok (.aload_n 0, 1) := by decide +kernel
theorem dX12_law_67 : decode cX12_law 67 = .ok (.aload_n 0, 1) := by decide +kernel
theorem dX12_law_68 : decode cX12_law 68 = .ok (.getfield 51, 3) := by decide +kernel
theorem dX12_law_71 : decode cX12_law 71 = .ok (.aload_n 0, 1) := by decide +kernel
theorem dX12_law_72 : decode cX12_law 72 = .ok (.getfield 214, 3) := by decide +kernel
theorem dX12_law_75 : decode cX12_law 75 = .ok (.invokevirtual 244, 3) := by decide +kernel
theorem dX12_law_78 : decode cX12_law 78 = .ok (.aload_n 0, 1) := by decide +kernel
theorem dX12_law_79 : decode cX12_law 79 = .ok (.bipush 20, 2) := by decide +kernel
theorem dX12_law_81 : decode cX12_law 81 = .ok (.invokevirtual 400, 3) := by decide +kernel
theorem dX12_law_84 : decode cX12_law 84 = .ok (.istore 4, 2) := by decide +kernel
theorem dX12_law_86 : decode cX12_law 86 = .ok (.aload_n 0, 1) := by decide +kernel
theorem dX12_law_87 : decode cX12_law 87 = .ok (.aload_n 0, 1) := by decide +kernel
theorem dX12_law_88 : decode cX12_law 88 = .ok (.getfield 84, 3) := by decide +kernel
theorem dX12_law_91 : decode cX12_law 91 = .ok (.iload_n 3, 1) := by decide +kernel
theorem dX12_law_92 : decode cX12_law 92 = .ok (.invokevirtual 244, 3) := by decide +kernel
theorem dX12_law_95 : decode cX12_law 95 = .ok (.aload_n 0, 1) := by decide +kernel
theorem dX12_law_96 : decode cX12_law 96 = .ok (.iconst 0, 1) := by decide +kernel
theorem dX12_law_97 : decode cX12_law 97 = .ok (.putfield 119, 3) := by decide +kernel
theorem dX12_law_100 : decode cX12_law 100 = .ok (.aload_n 0, 1) := by decide +kernel
theorem dX12_law_101 : decode cX12_law 101 = .ok (.iload 4, 2) := by decide +kernel
theorem dX12_law_103 : decode cX12_law 103 = .ok (.i2l, 1) := by decide +kernel
theorem dX12_law_104 : decode cX12_law 104 = .ok (.invokevirtual 359, 3) := by decide +kernel
theorem dX12_law_107 : decode cX12_law 107 = .ok (.aload_n 0, 1) := by decide +kernel
theorem dX12_law_108 : decode cX12_law 108 = .ok (.iload_n 2, 1) := by decide +kernel
theorem dX12_law_109 : decode cX12_law 109 = .ok (.i2l, 1) := by decide +kernel
theorem dX12_law_110 : decode cX12_law 110 = .ok (.invokevirtual 359, 3) := by decide +kernel
theorem dX12_law_113 : decode cX12_law 113 = .ok (.iload 4, 2) := by decide +kernel
theorem dX12_law_115 : decode cX12_law 115 = .ok (.iload_n 2, 1) := by decide +kernel
theorem dX12_law_116 : decode cX12_law 116 = .ok (.isub, 1) := by decide +kernel
theorem dX12_law_117 : decode cX12_law 117 = .ok (.ireturn, 1) := by decide +kernel
theorem dX12_seen_0 : decode cX12_seen 0 = .ok (.aload_n 0, 1) := by decide +kernel
theorem dX12_seen_1 : decode cX12_seen 1 = .ok (.iconst 0, 1) := by decide +kernel
theorem dX12_seen_2 : decode cX12_seen 2 = .ok (.putfield 112, 3) := by decide +kernel
theorem dX12_seen_5 : decode cX12_seen 5 = .ok (.aload_n 0, 1) := by decide +kernel
theorem dX12_seen_6 : decode cX12_seen 6 = .ok (.iload_n 1, 1) := by decide +kernel
theorem dX12_seen_7 : decode cX12_seen 7 = .ok (.invokevirtual 280, 3) := by decide +kernel
theorem dX12_seen_10 : decode cX12_seen 10 = .ok (.ifCond .eq 37, 3) := by decide +kernel
theorem dX12_seen_13 : decode cX12_seen 13 = .ok (.iload_n 2, 1) := by decide +kernel
theorem dX12_seen_14 : decode cX12_seen 14 = .ok (.i2l, 1) := by decide +kernel
theorem dX12_seen_15 : decode cX12_seen 15 = .ok (.lconst 0, 1) := by decide +kernel
theorem dX12_seen_16 : decode cX12_seen 16 = .ok (.ldc2_w 369, 3) := by decide +kernel
theorem dX12_seen_19 : decode cX12_seen 19 = .ok (.invokestatic 122, 3) := by decide +kernel
theorem dX12_seen_22 : decode cX12_seen 22 = .ok (.ifCond .eq 25, 3) := by decide +kernel
theorem dX12_seen_25 : decode cX12_seen 25 = .ok (.aload_n 0, 1) := by decide +kernel
theorem dX12_seen_26 : decode cX12_seen 26 = .ok (.getfield 188, 3) := by decide +kernel
theorem dX12_seen_29 : decode cX12_seen 29 = .ok (.iload_n 1, 1) := by decide +kernel
theorem dX12_seen_30 : decode cX12_seen 30 = .ok (.invokestatic 269, 3) := by decide +kernel
theorem dX12_seen_33 : decode cX12_seen 33 = .ok (.ifCond .ne 16, 3) := by decide +kernel
theorem dX12_seen_36 : decode cX12_seen 36 = .ok (.aload_n 0, 1) := by decide +kernel
theorem dX12_seen_37 : decode cX12_seen 37 = .ok (.getfield 188, 3) := by decide +kernel
theorem dX12_seen_40 : decode cX12_seen 40 = .ok (.invokestatic 251, 3) := by decide +kernel
theorem dX12_seen_43 : decode cX12_seen 43 = .ok (.iconst 4, 1) := by decide +kernel
theorem dX12_seen_44 : decode cX12_seen 44 = .ok (.if_icmp .ne 5, 3) := by decide +kernel
theorem dX12_seen_47 : decode cX12_seen 47 = .ok (.iconst (-1), 1) := by decide +kernel
theorem dX12_seen_48 : decode cX12_seen 48 = .ok (.ireturn, 1) := by decide +kernel
theorem dX12_seen_49 : decode cX12_seen 49 = .ok (.aload_n 0, 1) := by decide +kernel
theorem dX12_seen_50 : decode cX12_seen 50 = .ok (.dup, 1) := by decide +kernel
theorem dX12_seen_51 : decode cX12_seen 51 = .ok (.getfield 188, 3) := by decide +kernel
theorem dX12_seen_54 : decode cX12_seen 54 = .ok (.iconst 1, 1) := by decide +kernel
theorem dX12_seen_55 : decode cX12_seen 55 = .ok (.iload_n 1, 1) := by decide +kernel
theorem dX12_seen_56 : decode cX12_seen 56 = .ok (.ishl, 1) := by decide +kernel
theorem dX12_seen_57 : decode cX12_seen 57 = .ok (.ior, 1) := by decide +kernel
theorem dX12_seen_58 : decode cX12_seen 58 = .ok (.putfield 188, 3) := by decide +kernel
theorem dX12_seen_61 : decode cX12_seen 61 = .ok (.aload_n 0, 1) := by decide +kernel
theorem dX12_seen_62 : decode cX12_seen 62 = .ok (.getfield 87, 3) := by decide +kernel
theorem dX12_seen_65 : decode cX12_seen 65 = .ok (.iload_n 1, 1) := by decide +kernel
theorem dX12_seen_66 : decode cX12_seen 66 = .ok (.iload_n 2, 1) := by decide +kernel
theorem dX12_seen_67 : decode cX12_seen 67 = .ok (.iastore, 1) := by decide +kernel
theorem dX12_seen_68 : decode cX12_seen 68 = .ok (.aload_n 0, 1) := by decide +kernel
theorem dX12_seen_69 : decode cX12_seen 69 = .ok (.getfield 188, 3) := by decide +kernel
theorem dX12_seen_72 : decode cX12_seen 72 = .ok (.invokestatic 251, 3) := by decide +kernel
theorem dX12_seen_75 : decode cX12_seen 75 = .ok (.ireturn, 1) := by decide +kernel
theorem dX12_forget_0 : decode cX12_forget 0 = .ok (.aload_n 0, 1) := by decide +kernel
theorem dX12_forget_1 : decode cX12_forget 1 = .ok (.iconst 0, 1) := by decide +kernel
theorem dX12_forget_2 : decode cX12_forget 2 = .ok (.putfield 112, 3) := by decide +kernel
theorem dX12_forget_5 : decode cX12_forget 5 = .ok (.aload_n 0, 1) := by decide +kernel
theorem dX12_forget_6 : decode cX12_forget 6 = .ok (.getfield 188, 3) := by decide +kernel
theorem dX12_forget_9 : decode cX12_forget 9 = .ok (.invokestatic 251, 3) := by decide +kernel
theorem dX12_forget_12 : decode cX12_forget 12 = .ok (.istore_n 1, 1) := by decide +kernel
theorem dX12_forget_13 : decode cX12_forget 13 = .ok (.aload_n 0, 1) := by decide +kernel
theorem dX12_forget_14 : decode cX12_forget 14 = .ok (.iconst 0, 1) := by decide +kernel
theorem dX12_forget_15 : decode cX12_forget 15 = .ok (.putfield 188, 3) := by decide +kernel
theorem dX12_forget_18 : decode cX12_forget 18 = .ok (.iload_n 1, 1) := by decide +kernel
theorem dX12_forget_19 : decode cX12_forget 19 = .ok (.ireturn, 1) := by decide +kernel
theorem dX12_isAsSeen_0 : decode cX12_isAsSeen 0 = .ok (.iconst 1, 1) := by decide +kernel
theorem dX12_isAsSeen_1 : decode cX12_isAsSeen 1 = .ok (.istore_n 1, 1) := by decide +kernel
theorem dX12_isAsSeen_2 : decode cX12_isAsSeen 2 = .ok (.iconst 0, 1) := by decide +kernel
theorem dX12_isAsSeen_3 : decode cX12_isAsSeen 3 = .ok (.istore_n 2, 1) := by decide +kernel
theorem dX12_isAsSeen_4 : decode cX12_isAsSeen 4 = .ok (.iload_n 2, 1) := by decide +kernel
theorem dX12_isAsSeen_5 : decode cX12_isAsSeen 5 = .ok (.aload_n 0, 1) := by decide +kernel
theorem dX12_isAsSeen_6 : decode cX12_isAsSeen 6 = .ok (.getfield 13, 3) := by decide +kernel
theorem dX12_isAsSeen_9 : decode cX12_isAsSeen 9 = .ok (.if_icmp .ge 45, 3) := by decide +kernel
theorem dX12_isAsSeen_12 : decode cX12_isAsSeen 12 = .ok (.iload_n 1, 1) := by decide +kernel
theorem dX12_isAsSeen_13 : decode cX12_isAsSeen 13 = .ok (.ifCond .eq 33, 3) := by decide +kernel
theorem dX12_isAsSeen_16 : decode cX12_isAsSeen 16 = .ok (.aload_n 0, 1) := by decide +kernel
theorem dX12_isAsSeen_17 : decode cX12_isAsSeen 17 = .ok (.getfield 188, 3) := by decide +kernel
theorem dX12_isAsSeen_20 : decode cX12_isAsSeen 20 = .ok (.iload_n 2, 1) := by decide +kernel
theorem dX12_isAsSeen_21 : decode cX12_isAsSeen 21 = .ok (.invokestatic 269, 3) := by decide +kernel
theorem dX12_isAsSeen_24 : decode cX12_isAsSeen 24 = .ok (.ifCond .eq 18, 3) := by decide +kernel
theorem dX12_isAsSeen_27 : decode cX12_isAsSeen 27 = .ok (.aload_n 0, 1) := by decide +kernel
theorem dX12_isAsSeen_28 : decode cX12_isAsSeen 28 = .ok (.getfield 90, 3) := by decide +kernel
theorem dX12_isAsSeen_31 : decode cX12_isAsSeen 31 = .ok (.iload_n 2, 1) := by decide +kernel
theorem dX12_isAsSeen_32 : decode cX12_isAsSeen 32 = .ok (.iaload, 1) := by decide +kernel
theorem dX12_isAsSeen_33 : decode cX12_isAsSeen 33 = .ok (.aload_n 0, 1) := by decide +kernel
theorem dX12_isAsSeen_34 : decode cX12_isAsSeen 34 = .ok (.getfield 87, 3) := by decide +kernel
theorem dX12_isAsSeen_37 : decode cX12_isAsSeen 37 = .ok (.iload_n 2, 1) := by decide +kernel
theorem dX12_isAsSeen_38 : decode cX12_isAsSeen 38 = .ok (.iaload, 1) := by decide +kernel
theorem dX12_isAsSeen_39 : decode cX12_isAsSeen 39 = .ok (.if_icmp .ne 7, 3) := by decide +kernel
theorem dX12_isAsSeen_42 : decode cX12_isAsSeen 42 = .ok (.iconst 1, 1) := by decide +kernel
theorem dX12_isAsSeen_43 : decode cX12_isAsSeen 43 = .ok (.goto 4, 3) := by decide +kernel
theorem dX12_isAsSeen_46 : decode cX12_isAsSeen 46 = .ok (.iconst 0, 1) := by decide +kernel
theorem dX12_isAsSeen_47 : decode cX12_isAsSeen 47 = .ok (.istore_n 1, 1) := by decide +kernel
theorem dX12_isAsSeen_48 : decode cX12_isAsSeen 48 = .ok (.iinc 2 1, 3) := by decide +kernel
theorem dX12_isAsSeen_51 : decode cX12_isAsSeen 51 = .ok (.goto (-47), 3) := by decide +kernel
theorem dX12_isAsSeen_54 : decode cX12_isAsSeen 54 = .ok (.iload_n 1, 1) := by decide +kernel
theorem dX12_isAsSeen_55 : decode cX12_isAsSeen 55 = .ok (.ireturn, 1) := by decide +kernel
theorem dX12_placesFrom_0 : decode cX12_placesFrom 0 = .ok (.iload_n 1, 1) := by decide +kernel
theorem dX12_placesFrom_1 : decode cX12_placesFrom 1 = .ok (.aload_n 0, 1) := by decide +kernel
theorem dX12_placesFrom_2 : decode cX12_placesFrom 2 = .ok (.getfield 126, 3) := by decide +kernel
theorem dX12_placesFrom_5 : decode cX12_placesFrom 5 = .ok (.if_icmp .ne 84, 3) := by decide +kernel
theorem dX12_placesFrom_8 : decode cX12_placesFrom 8 = .ok (.aload_n 0, 1) := by decide +kernel
theorem dX12_placesFrom_9 : decode cX12_placesFrom 9 = .ok (.invokevirtual 433, 3) := by decide +kernel
theorem dX12_placesFrom_12 : decode cX12_placesFrom 12 = .ok (.ifCond .eq 76, 3) := by decide +kernel
theorem dX12_placesFrom_15 : decode cX12_placesFrom 15 = .ok (.iconst 0, 1) := by decide +kernel
theorem dX12_placesFrom_16 : decode cX12_placesFrom 16 = .ok (.istore_n 2, 1) := by decide +kernel
theorem dX12_placesFrom_17 : decode cX12_placesFrom 17 = .ok (.iload_n 2, 1) := by decide +kernel
theorem dX12_placesFrom_18 : decode cX12_placesFrom 18 = .ok (.aload_n 0, 1) := by decide +kernel
theorem dX12_placesFrom_19 : decode cX12_placesFrom 19 = .ok (.getfield 126, 3) := by decide +kernel
theorem dX12_placesFrom_22 : decode cX12_placesFrom 22 = .ok (.if_icmp .ge 56, 3) := by decide +kernel
theorem dX12_placesFrom_25 : decode cX12_placesFrom 25 = .ok (.aload_n 0, 1) := by decide +kernel
theorem dX12_placesFrom_26 : decode cX12_placesFrom 26 = .ok (.getfield 96, 3) := by decide +kernel
theorem dX12_placesFrom_29 : decode cX12_placesFrom 29 = .ok (.iload_n 2, 1) := by decide +kernel
theorem dX12_placesFrom_30 : decode cX12_placesFrom 30 = .ok (.aload_n 0, 1) := by decide +kernel
theorem dX12_placesFrom_31 : decode cX12_placesFrom 31 = .ok (.getfield 436, 3) := by decide +kernel
theorem dX12_placesFrom_34 : decode cX12_placesFrom 34 = .ok (.ifCond .ne 12, 3) := by decide +kernel
theorem dX12_placesFrom_37 : decode cX12_placesFrom 37 = .ok (.aload_n 0, 1) := by decide +kernel
theorem dX12_placesFrom_38 : decode cX12_placesFrom 38 = .ok (.getfield 93, 3) := by decide +kernel
theorem dX12_placesFrom_41 : decode cX12_placesFrom 41 = .ok (.iload_n 2, 1) := by decide +kernel
theorem dX12_placesFrom_42 : decode cX12_placesFrom 42 = .ok (.iaload, 1) := by decide +kernel
theorem dX12_placesFrom_43 : decode cX12_placesFrom 43 = .ok (.goto 9, 3) := by decide +kernel
theorem dX12_placesFrom_46 : decode cX12_placesFrom 46 = .ok (.aload_n 0, 1) := by decide +kernel
theorem dX12_placesFrom_47 : decode cX12_placesFrom 47 = .ok (.getfield 96, 3) := by decide +kernel
theorem dX12_placesFrom_50 : decode cX12_placesFrom 50 = .ok (.iload_n 2, 1) := by decide +kernel
theorem dX12_placesFrom_51 : decode cX12_placesFrom 51 = .ok (.iaload, 1) := by decide +kernel
theorem dX12_placesFrom_52 : decode cX12_placesFrom 52 = .ok (.iastore, 1) := by decide +kernel
theorem dX12_placesFrom_53 : decode cX12_placesFrom 53 = .ok (.aload_n 0, 1) := by decide +kernel
theorem dX12_placesFrom_54 : decode cX12_placesFrom 54 = .ok (.getfield 99, 3) := by decide +kernel
theorem dX12_placesFrom_57 : decode cX12_placesFrom 57 = .ok (.iload_n 2, 1) := by decide +kernel
theorem dX12_placesFrom_58 : decode cX12_placesFrom 58 = .ok (.dup2, 1) := by decide +kernel
theorem dX12_placesFrom_59 : decode cX12_placesFrom 59 = .ok (.iaload, 1) := by decide +kernel
theorem dX12_placesFrom_60 : decode cX12_placesFrom 60 = .ok (.iconst 1, 1) := by decide +kernel
theorem dX12_placesFrom_61 : decode cX12_placesFrom 61 = .ok (.aload_n 0, 1) := by decide +kernel
theorem dX12_placesFrom_62 : decode cX12_placesFrom 62 = .ok (.getfield 93, 3) := by decide +kernel
theorem dX12_placesFrom_65 : decode cX12_placesFrom 65 = .ok (.iload_n 2, 1) := by decide +kernel
theorem dX12_placesFrom_66 : decode cX12_placesFrom 66 = .ok (.iaload, 1) := by decide +kernel
theorem dX12_placesFrom_67 : decode cX12_placesFrom 67 = .ok (.iconst 1, 1) := by decide +kernel
theorem dX12_placesFrom_68 : decode cX12_placesFrom 68 = .ok (.iadd, 1) := by decide +kernel
theorem dX12_placesFrom_69 : decode cX12_placesFrom 69 = .ok (.ishl, 1) := by decide +kernel
theorem dX12_placesFrom_70 : decode cX12_placesFrom 70 = .ok (.ior, 1) := by decide +kernel
theorem dX12_placesFrom_71 : decode cX12_placesFrom 71 = .ok (.iastore, 1) := by decide +kernel
theorem dX12_placesFrom_72 : decode cX12_placesFrom 72 = .ok (.iinc 2 1, 3) := by decide +kernel
theorem dX12_placesFrom_75 : decode cX12_placesFrom 75 = .ok (.goto (-58), 3) := by decide +kernel
theorem dX12_placesFrom_78 : decode cX12_placesFrom 78 = .ok (.aload_n 0, 1) := by decide +kernel
theorem dX12_placesFrom_79 : decode cX12_placesFrom 79 = .ok (.dup, 1) := by decide +kernel
theorem dX12_placesFrom_80 : decode cX12_placesFrom 80 = .ok (.getfield 436, 3) := by decide +kernel
theorem dX12_placesFrom_83 : decode cX12_placesFrom 83 = .ok (.iconst 1, 1) := by decide +kernel
theorem dX12_placesFrom_84 : decode cX12_placesFrom 84 = .ok (.iadd, 1) := by decide +kernel
theorem dX12_placesFrom_85 : decode cX12_placesFrom 85 = .ok (.putfield 436, 3) := by decide +kernel
theorem dX12_placesFrom_88 : decode cX12_placesFrom 88 = .ok (.return_, 1) := by decide +kernel
theorem dX12_placesFrom_89 : decode cX12_placesFrom 89 = .ok (.aload_n 0, 1) := by decide +kernel
theorem dX12_placesFrom_90 : decode cX12_placesFrom 90 = .ok (.getfield 93, 3) := by decide +kernel
theorem dX12_placesFrom_93 : decode cX12_placesFrom 93 = .ok (.iload_n 1, 1) := by decide +kernel
theorem dX12_placesFrom_94 : decode cX12_placesFrom 94 = .ok (.iconst (-1), 1) := by decide +kernel
