theorem dX12_placesFrom_95 : decode cX12_placesFrom 95 = .ok (.iastore, 1) := by decide +kernel
theorem dX12_placesFrom_96 : decode cX12_placesFrom 96 = .ok (.aload_n 0, 1) := by decide +kernel
theorem dX12_placesFrom_97 : decode cX12_placesFrom 97 = .ok (.iload_n 1, 1) := by decide +kernel
theorem dX12_placesFrom_98 : decode cX12_placesFrom 98 = .ok (.iconst 1, 1) := by decide +kernel
theorem dX12_placesFrom_99 : decode cX12_placesFrom 99 = .ok (.iadd, 1) := by decide +kernel
theorem dX12_placesFrom_100 : decode cX12_placesFrom 100 = .ok (.invokevirtual 439, 3) := by decide +kernel
theorem dX12_placesFrom_103 : decode cX12_placesFrom 103 = .ok (.iconst 0, 1) := by decide +kernel
theorem dX12_placesFrom_104 : decode cX12_placesFrom 104 = .ok (.istore_n 2, 1) := by decide +kernel
theorem dX12_placesFrom_105 : decode cX12_placesFrom 105 = .ok (.iload_n 2, 1) := by decide +kernel
theorem dX12_placesFrom_106 : decode cX12_placesFrom 106 = .ok (.aload_n 0, 1) := by decide +kernel
theorem dX12_placesFrom_107 : decode cX12_placesFrom 107 = .ok (.getfield 13, 3) := by decide +kernel
theorem dX12_placesFrom_110 : decode cX12_placesFrom 110 = .ok (.if_icmp .ge 86, 3) := by decide +kernel
theorem dX12_placesFrom_113 : decode cX12_placesFrom 113 = .ok (.aload_n 0, 1) := by decide +kernel
theorem dX12_placesFrom_114 : decode cX12_placesFrom 114 = .ok (.getfield 188, 3) := by decide +kernel
theorem dX12_placesFrom_117 : decode cX12_placesFrom 117 = .ok (.iload_n 2, 1) := by decide +kernel
theorem dX12_placesFrom_118 : decode cX12_placesFrom 118 = .ok (.invokestatic 269, 3) := by decide +kernel
theorem dX12_placesFrom_121 : decode cX12_placesFrom 121 = .ok (.ifCond .eq 69, 3) := by decide +kernel
theorem dX12_placesFrom_124 : decode cX12_placesFrom 124 = .ok (.aload_n 0, 1) := by decide +kernel
theorem dX12_placesFrom_125 : decode cX12_placesFrom 125 = .ok (.getfield 90, 3) := by decide +kernel
theorem dX12_placesFrom_128 : decode cX12_placesFrom 128 = .ok (.iload_n 2, 1) := by decide +kernel
theorem dX12_placesFrom_129 : decode cX12_placesFrom 129 = .ok (.iaload, 1) := by decide +kernel
theorem dX12_placesFrom_130 : decode cX12_placesFrom 130 = .ok (.aload_n 0, 1) := by decide +kernel
theorem dX12_placesFrom_131 : decode cX12_placesFrom 131 = .ok (.getfield 27, 3) := by decide +kernel
theorem dX12_placesFrom_134 : decode cX12_placesFrom 134 = .ok (.iload_n 1, 1) := by decide +kernel
theorem dX12_placesFrom_135 : decode cX12_placesFrom 135 = .ok (.iaload, 1) := by decide +kernel
theorem dX12_placesFrom_136 : decode cX12_placesFrom 136 = .ok (.iadd, 1) := by decide +kernel
theorem dX12_placesFrom_137 : decode cX12_placesFrom 137 = .ok (.aload_n 0, 1) := by decide +kernel
theorem dX12_placesFrom_138 : decode cX12_placesFrom 138 = .ok (.getfield 87, 3) := by decide +kernel
theorem dX12_placesFrom_141 : decode cX12_placesFrom 141 = .ok (.iload_n 2, 1) := by decide +kernel
theorem dX12_placesFrom_142 : decode cX12_placesFrom 142 = .ok (.iaload, 1) := by decide +kernel
theorem dX12_placesFrom_143 : decode cX12_placesFrom 143 = .ok (.if_icmp .gt 47, 3) := by decide +kernel
theorem dX12_placesFrom_146 : decode cX12_placesFrom 146 = .ok (.aload_n 0, 1) := by decide +kernel
theorem dX12_placesFrom_147 : decode cX12_placesFrom 147 = .ok (.getfield 93, 3) := by decide +kernel
theorem dX12_placesFrom_150 : decode cX12_placesFrom 150 = .ok (.iload_n 1, 1) := by decide +kernel
theorem dX12_placesFrom_151 : decode cX12_placesFrom 151 = .ok (.iload_n 2, 1) := by decide +kernel
theorem dX12_placesFrom_152 : decode cX12_placesFrom 152 = .ok (.iastore, 1) := by decide +kernel
theorem dX12_placesFrom_153 : decode cX12_placesFrom 153 = .ok (.aload_n 0, 1) := by decide +kernel
theorem dX12_placesFrom_154 : decode cX12_placesFrom 154 = .ok (.getfield 90, 3) := by decide +kernel
theorem dX12_placesFrom_157 : decode cX12_placesFrom 157 = .ok (.iload_n 2, 1) := by decide +kernel
theorem dX12_placesFrom_158 : decode cX12_placesFrom 158 = .ok (.dup2, 1) := by decide +kernel
theorem dX12_placesFrom_159 : decode cX12_placesFrom 159 = .ok (.iaload, 1) := by decide +kernel
theorem dX12_placesFrom_160 : decode cX12_placesFrom 160 = .ok (.aload_n 0, 1) := by decide +kernel
theorem dX12_placesFrom_161 : decode cX12_placesFrom 161 = .ok (.getfield 27, 3) := by decide +kernel
theorem dX12_placesFrom_164 : decode cX12_placesFrom 164 = .ok (.iload_n 1, 1) := by decide +kernel
theorem dX12_placesFrom_165 : decode cX12_placesFrom 165 = .ok (.iaload, 1) := by decide +kernel
theorem dX12_placesFrom_166 : decode cX12_placesFrom 166 = .ok (.iadd, 1) := by decide +kernel
theorem dX12_placesFrom_167 : decode cX12_placesFrom 167 = .ok (.iastore, 1) := by decide +kernel
theorem dX12_placesFrom_168 : decode cX12_placesFrom 168 = .ok (.aload_n 0, 1) := by decide +kernel
theorem dX12_placesFrom_169 : decode cX12_placesFrom 169 = .ok (.iload_n 1, 1) := by decide +kernel
theorem dX12_placesFrom_170 : decode cX12_placesFrom 170 = .ok (.iconst 1, 1) := by decide +kernel
theorem dX12_placesFrom_171 : decode cX12_placesFrom 171 = .ok (.iadd, 1) := by decide +kernel
theorem dX12_placesFrom_172 : decode cX12_placesFrom 172 = .ok (.invokevirtual 439, 3) := by decide +kernel
theorem dX12_placesFrom_175 : decode cX12_placesFrom 175 = .ok (.aload_n 0, 1) := by decide +kernel
theorem dX12_placesFrom_176 : decode cX12_placesFrom 176 = .ok (.getfield 90, 3) := by decide +kernel
theorem dX12_placesFrom_179 : decode cX12_placesFrom 179 = .ok (.iload_n 2, 1) := by decide +kernel
theorem dX12_placesFrom_180 : decode cX12_placesFrom 180 = .ok (.dup2, 1) := by decide +kernel
theorem dX12_placesFrom_181 : decode cX12_placesFrom 181 = .ok (.iaload, 1) := by decide +kernel
theorem dX12_placesFrom_182 : decode cX12_placesFrom 182 = .ok (.aload_n 0, 1) := by decide +kernel
theorem dX12_placesFrom_183 : decode cX12_placesFrom 183 = .ok (.getfield 27, 3) := by decide +kernel
theorem dX12_placesFrom_186 : decode cX12_placesFrom 186 = .ok (.iload_n 1, 1) := by decide +kernel
theorem dX12_placesFrom_187 : decode cX12_placesFrom 187 = .ok (.iaload, 1) := by decide +kernel
theorem dX12_placesFrom_188 : decode cX12_placesFrom 188 = .ok (.isub, 1) := by decide +kernel
theorem dX12_placesFrom_189 : decode cX12_placesFrom 189 = .ok (.iastore, 1) := by decide +kernel
theorem dX12_placesFrom_190 : decode cX12_placesFrom 190 = .ok (.iinc 2 1, 3) := by decide +kernel
theorem dX12_placesFrom_193 : decode cX12_placesFrom 193 = .ok (.goto (-88), 3) := by decide +kernel
theorem dX12_placesFrom_196 : decode cX12_placesFrom 196 = .ok (.return_, 1) := by decide +kernel
theorem dX12_laysPlaces_0 : decode cX12_laysPlaces 0 = .ok (.aload_n 0, 1) := by decide +kernel
theorem dX12_laysPlaces_1 : decode cX12_laysPlaces 1 = .ok (.iconst 0, 1) := by decide +kernel
theorem dX12_laysPlaces_2 : decode cX12_laysPlaces 2 = .ok (.putfield 436, 3) := by decide +kernel
theorem dX12_laysPlaces_5 : decode cX12_laysPlaces 5 = .ok (.iconst 0, 1) := by decide +kernel
theorem dX12_laysPlaces_6 : decode cX12_laysPlaces 6 = .ok (.istore_n 1, 1) := by decide +kernel
theorem dX12_laysPlaces_7 : decode cX12_laysPlaces 7 = .ok (.iload_n 1, 1) := by decide +kernel
theorem dX12_laysPlaces_8 : decode cX12_laysPlaces 8 = .ok (.aload_n 0, 1) := by decide +kernel
theorem dX12_laysPlaces_9 : decode cX12_laysPlaces 9 = .ok (.getfield 126, 3) := by decide +kernel
theorem dX12_laysPlaces_12 : decode cX12_laysPlaces 12 = .ok (.if_icmp .ge 16, 3) := by decide +kernel
theorem dX12_laysPlaces_15 : decode cX12_laysPlaces 15 = .ok (.aload_n 0, 1) := by decide +kernel
theorem dX12_laysPlaces_16 : decode cX12_laysPlaces 16 = .ok (.getfield 99, 3) := by decide +kernel
theorem dX12_laysPlaces_19 : decode cX12_laysPlaces 19 = .ok (.iload_n 1, 1) := by decide +kernel
theorem dX12_laysPlaces_20 : decode cX12_laysPlaces 20 = .ok (.iconst 0, 1) := by decide +kernel
theorem dX12_laysPlaces_21 : decode cX12_laysPlaces 21 = .ok (.iastore, 1) := by decide +kernel
theorem dX12_laysPlaces_22 : decode cX12_laysPlaces 22 = .ok (.iinc 1 1, 3) := by decide +kernel
theorem dX12_laysPlaces_25 : decode cX12_laysPlaces 25 = .ok (.goto (-18), 3) := by decide +kernel
theorem dX12_laysPlaces_28 : decode cX12_laysPlaces 28 = .ok (.iconst 0, 1) := by decide +kernel
theorem dX12_laysPlaces_29 : decode cX12_laysPlaces 29 = .ok (.istore_n 1, 1) := by decide +kernel
theorem dX12_laysPlaces_30 : decode cX12_laysPlaces 30 = .ok (.iload_n 1, 1) := by decide +kernel
theorem dX12_laysPlaces_31 : decode cX12_laysPlaces 31 = .ok (.aload_n 0, 1) := by decide +kernel
theorem dX12_laysPlaces_32 : decode cX12_laysPlaces 32 = .ok (.getfield 13, 3) := by decide +kernel
theorem dX12_laysPlaces_35 : decode cX12_laysPlaces 35 = .ok (.if_icmp .ge 16, 3) := by decide +kernel
theorem dX12_laysPlaces_38 : decode cX12_laysPlaces 38 = .ok (.aload_n 0, 1) := by decide +kernel
theorem dX12_laysPlaces_39 : decode cX12_laysPlaces 39 = .ok (.getfield 90, 3) := by decide +kernel
theorem dX12_laysPlaces_42 : decode cX12_laysPlaces 42 = .ok (.iload_n 1, 1) := by decide +kernel
theorem dX12_laysPlaces_43 : decode cX12_laysPlaces 43 = .ok (.iconst 0, 1) := by decide +kernel
theorem dX12_laysPlaces_44 : decode cX12_laysPlaces 44 = .ok (.iastore, 1) := by decide +kernel
theorem dX12_laysPlaces_45 : decode cX12_laysPlaces 45 = .ok (.iinc 1 1, 3) := by decide +kernel
theorem dX12_laysPlaces_48 : decode cX12_laysPlaces 48 = .ok (.goto (-18), 3) := by decide +kernel
theorem dX12_laysPlaces_51 : decode cX12_laysPlaces 51 = .ok (.aload_n 0, 1) := by decide +kernel
theorem dX12_laysPlaces_52 : decode cX12_laysPlaces 52 = .ok (.iconst 0, 1) := by decide +kernel
theorem dX12_laysPlaces_53 : decode cX12_laysPlaces 53 = .ok (.invokevirtual 439, 3) := by decide +kernel
theorem dX12_laysPlaces_56 : decode cX12_laysPlaces 56 = .ok (.return_, 1) := by decide +kernel
theorem dX12_ways_0 : decode cX12_ways 0 = .ok (.aload_n 0, 1) := by decide +kernel
theorem dX12_ways_1 : decode cX12_ways 1 = .ok (.iconst 0, 1) := by decide +kernel
theorem dX12_ways_2 : decode cX12_ways 2 = .ok (.putfield 112, 3) := by decide +kernel
theorem dX12_ways_5 : decode cX12_ways 5 = .ok (.aload_n 0, 1) := by decide +kernel
theorem dX12_ways_6 : decode cX12_ways 6 = .ok (.invokevirtual 442, 3) := by decide +kernel
theorem dX12_ways_9 : decode cX12_ways 9 = .ok (.aload_n 0, 1) := by decide +kernel
theorem dX12_ways_10 : decode cX12_ways 10 = .ok (.iconst 0, 1) := by decide +kernel
theorem dX12_ways_11 : decode cX12_ways 11 = .ok (.putfield 119, 3) := by decide +kernel
theorem dX12_ways_14 : decode cX12_ways 14 = .ok (.iconst 0, 1) := by decide +kernel
theorem dX12_ways_15 : decode cX12_ways 15 = .ok (.istore_n 1, 1) := by decide +kernel
theorem dX12_ways_16 : decode cX12_ways 16 = .ok (.iload_n 1, 1) := by decide +kernel
theorem dX12_ways_17 : decode cX12_ways 17 = .ok (.aload_n 0, 1) := by decide +kernel
theorem dX12_ways_18 : decode cX12_ways 18 = .ok (.getfield 126, 3) := by decide +kernel
theorem dX12_ways_21 : decode cX12_ways 21 = .ok (.if_icmp .ge 27, 3) := by decide +kernel
theorem dX12_ways_24 : decode cX12_ways 24 = .ok (.aload_n 0, 1) := by decide +kernel
theorem dX12_ways_25 : decode cX12_ways 25 = .ok (.getfield 436, 3) := by decide +kernel
theorem dX12_ways_28 : decode cX12_ways 28 = .ok (.ifCond .le 20, 3) := by decide +kernel
theorem dX12_ways_31 : decode cX12_ways 31 = .ok (.aload_n 0, 1) := by decide +kernel
theorem dX12_ways_32 : decode cX12_ways 32 = .ok (.aload_n 0, 1) := by decide +kernel
theorem dX12_ways_33 : decode cX12_ways 33 = .ok (.getfield 96, 3) := by decide +kernel
theorem dX12_ways_36 : decode cX12_ways 36 = .ok (.iload_n 1, 1) := by decide +kernel
theorem dX12_ways_37 : decode cX12_ways 37 = .ok (.iaload, 1) := by decide +kernel
theorem dX12_ways_38 : decode cX12_ways 38 = .ok (.i2l, 1) := by decide +kernel
theorem dX12_ways_39 : decode cX12_ways 39 = .ok (.invokevirtual 359, 3) := by decide +kernel
theorem dX12_ways_42 : decode cX12_ways 42 = .ok (.iinc 1 1, 3) := by decide +kernel
theorem dX12_ways_45 : decode cX12_ways 45 = .ok (.goto (-29), 3) := by decide +kernel
theorem dX12_ways_48 : decode cX12_ways 48 = .ok (.aload_n 0, 1) := by decide +kernel
theorem dX12_ways_49 : decode cX12_ways 49 = .ok (.getfield 436, 3) := by decide +kernel
theorem dX12_ways_52 : decode cX12_ways 52 = .ok (.ireturn, 1) := by decide +kernel
theorem dX12_was_0 : decode cX12_was 0 = .ok (.aload_n 0, 1) := by decide +kernel
theorem dX12_was_1 : decode cX12_was 1 = .ok (.iconst 0, 1) := by decide +kernel
theorem dX12_was_2 : decode cX12_was 2 = .ok (.putfield 112, 3) := by decide +kernel
theorem dX12_was_5 : decode cX12_was 5 = .ok (.aload_n 0, 1) := by decide +kernel
theorem dX12_was_6 : decode cX12_was 6 = .ok (.iload_n 1, 1) := by decide +kernel
theorem dX12_was_7 : decode cX12_was 7 = .ok (.invokevirtual 294, 3) := by decide +kernel
theorem dX12_was_10 : decode cX12_was 10 = .ok (.ifCond .ne 5, 3) := by decide +kernel
theorem dX12_was_13 : decode cX12_was 13 = .ok (.iconst (-1), 1) := by decide +kernel
theorem dX12_was_14 : decode cX12_was 14 = .ok (.ireturn, 1) := by decide +kernel
theorem dX12_was_15 : decode cX12_was 15 = .ok (.aload_n 0, 1) := by decide +kernel
theorem dX12_was_16 : decode cX12_was 16 = .ok (.invokevirtual 442, 3) := by decide +kernel
theorem dX12_was_19 : decode cX12_was 19 = .ok (.aload_n 0, 1) := by decide +kernel
theorem dX12_was_20 : decode cX12_was 20 = .ok (.iconst 0, 1) := by decide +kernel
theorem dX12_was_21 : decode cX12_was 21 = .ok (.putfield 119, 3) := by decide +kernel
theorem dX12_was_24 : decode cX12_was 24 = .ok (.aload_n 0, 1) := by decide +kernel
theorem dX12_was_25 : decode cX12_was 25 = .ok (.aload_n 0, 1) := by decide +kernel
theorem dX12_was_26 : decode cX12_was 26 = .ok (.getfield 99, 3) := by decide +kernel
theorem dX12_was_29 : decode cX12_was 29 = .ok (.iload_n 1, 1) := by decide +kernel
theorem dX12_was_30 : decode cX12_was 30 = .ok (.iaload, 1) := by decide +kernel
theorem dX12_was_31 : decode cX12_was 31 = .ok (.iconst 1, 1) := by decide +kernel
theorem dX12_was_32 : decode cX12_was 32 = .ok (.iand, 1) := by decide +kernel
theorem dX12_was_33 : decode cX12_was 33 = .ok (.i2l, 1) := by decide +kernel
theorem dX12_was_34 : decode cX12_was 34 = .ok (.invokevirtual 359, 3) := by decide +kernel
theorem dX12_was_37 : decode cX12_was 37 = .ok (.aload_n 0, 1) := by decide +kernel
theorem dX12_was_38 : decode cX12_was 38 = .ok (.getfield 99, 3) := by decide +kernel
theorem dX12_was_41 : decode cX12_was 41 = .ok (.iload_n 1, 1) := by decide +kernel
theorem dX12_was_42 : decode cX12_was 42 = .ok (.iaload, 1) := by decide +kernel
theorem dX12_was_43 : decode cX12_was 43 = .ok (.iconst 1, 1) := by decide +kernel
theorem dX12_was_44 : decode cX12_was 44 = .ok (.ishr, 1) := by decide +kernel
theorem dX12_was_45 : decode cX12_was 45 = .ok (.ireturn, 1) := by decide +kernel
theorem dX12_hasRun_0 : decode cX12_hasRun 0 = .ok (.iconst 0, 1) := by decide +kernel
theorem dX12_hasRun_1 : decode cX12_hasRun 1 = .ok (.istore_n 3, 1) := by decide +kernel
theorem dX12_hasRun_2 : decode cX12_hasRun 2 = .ok (.iconst 0, 1) := by decide +kernel
theorem dX12_hasRun_3 : decode cX12_hasRun 3 = .ok (.istore 4, 2) := by decide +kernel
theorem dX12_hasRun_5 : decode cX12_hasRun 5 = .ok (.iconst 0, 1) := by decide +kernel
theorem dX12_hasRun_6 : decode cX12_hasRun 6 = .ok (.istore 5, 2) := by decide +kernel
theorem dX12_hasRun_8 : decode cX12_hasRun 8 = .ok (.iload 5, 2) := by decide +kernel
theorem dX12_hasRun_10 : decode cX12_hasRun 10 = .ok (.iload_n 1, 1) := by decide +kernel
theorem dX12_hasRun_11 : decode cX12_hasRun 11 = .ok (.if_icmp .ge 43, 3) := by decide +kernel
theorem dX12_hasRun_14 : decode cX12_hasRun 14 = .ok (.iload_n 0, 1) := by decide +kernel
theorem dX12_hasRun_15 : decode cX12_hasRun 15 = .ok (.iload 5, 2) := by decide +kernel
theorem dX12_hasRun_17 : decode cX12_hasRun 17 = .ok (.invokestatic 269, 3) := by decide +kernel
theorem dX12_hasRun_20 : decode cX12_hasRun 20 = .ok (.ifCond .eq 9, 3) := by decide +kernel
theorem dX12_hasRun_23 : decode cX12_hasRun 23 = .ok (.iload_n 3, 1) := by decide +kernel
theorem dX12_hasRun_24 : decode cX12_hasRun 24 = .ok (.iconst 1, 1) := by decide +kernel
theorem dX12_hasRun_25 : decode cX12_hasRun 25 = .ok (.iadd, 1) := by decide +kernel
theorem dX12_hasRun_26 : decode cX12_hasRun 26 = .ok (.goto 4, 3) := by decide +kernel
theorem dX12_hasRun_29 : decode cX12_hasRun 29 = .ok (.iconst 0, 1) := by decide +kernel
theorem dX12_hasRun_30 : decode cX12_hasRun 30 = .ok (.istore_n 3, 1) := by decide +kernel
theorem dX12_hasRun_31 : decode cX12_hasRun 31 = .ok (.iload 4, 2) := by decide +kernel
theorem dX12_hasRun_33 : decode cX12_hasRun 33 = .ok (.ifCond .ne 8, 3) := by decide +kernel
theorem dX12_hasRun_36 : decode cX12_hasRun 36 = .ok (.iload_n 3, 1) := by decide +kernel
theorem dX12_hasRun_37 : decode cX12_hasRun 37 = .ok (.iload_n 2, 1) := by decide +kernel
theorem dX12_hasRun_38 : decode cX12_hasRun 38 = .ok (.if_icmp .lt 7, 3) := by decide +kernel
theorem dX12_hasRun_41 : decode cX12_hasRun 41 = .ok (.iconst 1, 1) := by decide +kernel
theorem dX12_hasRun_42 : decode cX12_hasRun 42 = .ok (.goto 4, 3) := by decide +kernel
theorem dX12_hasRun_45 : decode cX12_hasRun 45 = .ok (.iconst 0, 1) := by decide +kernel
theorem dX12_hasRun_46 : decode cX12_hasRun 46 = .ok (.istore 4, 2) := by decide +kernel
theorem dX12_hasRun_48 : decode cX12_hasRun 48 = .ok (.iinc 5 1, 3) := by decide +kernel
theorem dX12_hasRun_51 : decode cX12_hasRun 51 = .ok (.goto (-43), 3) := by decide +kernel
theorem dX12_hasRun_54 : decode cX12_hasRun 54 = .ok (.iload 4, 2) := by decide +kernel
theorem dX12_hasRun_56 : decode cX12_hasRun 56 = .ok (.ireturn, 1) := by decide +kernel
theorem dX12_rain_0 : decode cX12_rain 0 = .ok (.aload_n 0, 1) := by decide +kernel
theorem dX12_rain_1 : decode cX12_rain 1 = .ok (.iconst 0, 1) := by decide +kernel
theorem dX12_rain_2 : decode cX12_rain 2 = .ok (.putfield 112, 3) := by decide +kernel
theorem dX12_rain_5 : decode cX12_rain 5 = .ok (.iload_n 1, 1) := by decide +kernel
theorem dX12_rain_6 : decode cX12_rain 6 = .ok (.i2l, 1) := by decide +kernel
theorem dX12_rain_7 : decode cX12_rain 7 = .ok (.lconst 1, 1) := by decide +kernel
theorem dX12_rain_8 : decode cX12_rain 8 = .ok (.ldc2_w 445, 3) := by decide +kernel
theorem dX12_rain_11 : decode cX12_rain 11 = .ok (.invokestatic 122, 3) := by decide +kernel
theorem dX12_rain_14 : decode cX12_rain 14 = .ok (.ifCond .eq 27, 3) := by decide +kernel
theorem dX12_rain_17 : decode cX12_rain 17 = .ok (.iload_n 2, 1) := by decide +kernel
theorem dX12_rain_18 : decode cX12_rain 18 = .ok (.i2l, 1) := by decide +kernel
theorem dX12_rain_19 : decode cX12_rain 19 = .ok (.lconst 1, 1) := by decide +kernel
theorem dX12_rain_20 : decode cX12_rain 20 = .ok (.ldc2_w 445, 3) := by decide +kernel
theorem dX12_rain_23 : decode cX12_rain 23 = .ok (.invokestatic 122, 3) := by decide +kernel
theorem dX12_rain_26 : decode cX12_rain 26 = .ok (.ifCond .eq 15, 3) := by decide +kernel
theorem dX12_rain_29 : decode cX12_rain 29 = .ok (.iload_n 3, 1) := by decide +kernel
theorem dX12_rain_30 : decode cX12_rain 30 = .ok (.i2l, 1) := by decide +kernel
theorem dX12_rain_31 : decode cX12_rain 31 = .ok (.lconst 0, 1) := by decide +kernel
theorem dX12_rain_32 : decode cX12_rain 32 = .ok (.ldc2_w 447, 3) := by decide +kernel
theorem dX12_rain_35 : decode cX12_rain 35 = .ok (.invokestatic 122, 3) := by decide +kernel
theorem dX12_rain_38 : decode cX12_rain 38 = .ok (.ifCond .ne 5, 3) := by decide +kernel
theorem dX12_rain_41 : decode cX12_rain 41 = .ok (.iconst (-1), 1) := by decide +kernel
theorem dX12_rain_42 : decode cX12_rain 42 = .ok (.ireturn, 1) := by decide +kernel
theorem dX12_rain_43 : decode cX12_rain 43 = .ok (.lconst 0, 1) := by decide +kernel
theorem dX12_rain_44 : decode cX12_rain 44 = .ok (.lstore 4, 2) := by decide +kernel
theorem dX12_rain_46 : decode cX12_rain 46 = .ok (.lconst 1, 1) := by decide +kernel
theorem dX12_rain_47 : decode cX12_rain 47 = .ok (.lstore 6, 2) := by decide +kernel
theorem dX12_rain_49 : decode cX12_rain 49 = .ok (.iconst 0, 1) := by decide +kernel
theorem dX12_rain_50 : decode cX12_rain 50 = .ok (.istore 8, 2) := by decide +kernel
theorem dX12_rain_52 : decode cX12_rain 52 = .ok (.iload 8, 2) := by decide +kernel
theorem dX12_rain_54 : decode cX12_rain 54 = .ok (.iload_n 1, 1) := by decide +kernel
theorem dX12_rain_55 : decode cX12_rain 55 = .ok (.if_icmp .ge 17, 3) := by decide +kernel
theorem dX12_rain_58 : decode cX12_rain 58 = .ok (.lload 6, 2) := by decide +kernel
theorem dX12_rain_60 : decode cX12_rain 60 = .ok (.ldc2_w 447, 3) := by decide +kernel
theorem dX12_rain_63 : decode cX12_rain 63 = .ok (.lmul, 1) := by decide +kernel
theorem dX12_rain_64 : decode cX12_rain 64 = .ok (.lstore 6, 2) := by decide +kernel
theorem dX12_rain_66 : decode cX12_rain 66 = .ok (.iinc 8 1, 3) := by decide +kernel
theorem dX12_rain_69 : decode cX12_rain 69 = .ok (.goto (-17), 3) := by decide +kernel
theorem dX12_rain_72 : decode cX12_rain 72 = .ok (.iconst 0, 1) := by decide +kernel
theorem dX12_rain_73 : decode cX12_rain 73 = .ok (.istore 8, 2) := by decide +kernel
theorem dX12_rain_75 : decode cX12_rain 75 = .ok (.iload 8, 2) := by decide +kernel
theorem dX12_rain_77 : decode cX12_rain 77 = .ok (.iconst 1, 1) := by decide +kernel
theorem dX12_rain_78 : decode cX12_rain 78 = .ok (.iload_n 1, 1) := by decide +kernel
theorem dX12_rain_79 : decode cX12_rain 79 = .ok (.ishl, 1) := by decide +kernel
theorem dX12_rain_80 : decode cX12_rain 80 = .ok (.if_icmp .ge 69, 3) := by decide +kernel
theorem dX12_rain_83 : decode cX12_rain 83 = .ok (.iload 8, 2) := by decide +kernel
theorem dX12_rain_85 : decode cX12_rain 85 = .ok (.iload_n 1, 1) := by decide +kernel
theorem dX12_rain_86 : decode cX12_rain 86 = .ok (.iload_n 2, 1) := by decide +kernel
theorem dX12_rain_87 : decode cX12_rain 87 = .ok (.invokestatic 449, 3) := by decide +kernel
theorem dX12_rain_90 : decode cX12_rain 90 = .ok (.invokestatic 151, 3) := by decide +kernel
theorem dX12_rain_93 : decode cX12_rain 93 = .ok (.i2l, 1) := by decide +kernel
theorem dX12_rain_94 : decode cX12_rain 94 = .ok (.lstore 9, 2) := by decide +kernel
theorem dX12_rain_96 : decode cX12_rain 96 = .ok (.iconst 0, 1) := by decide +kernel
theorem dX12_rain_97 : decode cX12_rain 97 = .ok (.istore 11, 2) := by decide +kernel
theorem dX12_rain_99 : decode cX12_rain 99 = .ok (.iload 11, 2) := by decide +kernel
theorem dX12_rain_101 : decode cX12_rain 101 = .ok (.iload_n 1, 1) := by decide +kernel
theorem dX12_rain_102 : decode cX12_rain 102 = .ok (.if_icmp .ge 34, 3) := by decide +kernel
theorem dX12_rain_105 : decode cX12_rain 105 = .ok (.lload 9, 2) := by decide +kernel
theorem dX12_rain_107 : decode cX12_rain 107 = .ok (.iload 8, 2) := by decide +kernel
theorem dX12_rain_109 : decode cX12_rain 109 = .ok (.iload 11, 2) := by decide +kernel
theorem dX12_rain_111 : decode cX12_rain 111 = .ok (.invokestatic 269, 3) := by decide +kernel
theorem dX12_rain_114 : decode cX12_rain 114 = .ok (.ifCond .eq 8, 3) := by decide +kernel
theorem dX12_rain_117 : decode cX12_rain 117 = .ok (.iload_n 3, 1) := by decide +kernel
theorem dX12_rain_118 : decode cX12_rain 118 = .ok (.i2l, 1) := by decide +kernel
theorem dX12_rain_119 : decode cX12_rain 119 = .ok (.goto 8, 3) := by decide +kernel
theorem dX12_rain_122 : decode cX12_rain 122 = .ok (.bipush 10, 2) := by decide +kernel
theorem dX12_rain_124 : decode cX12_rain 124 = .ok (.iload_n 3, 1) := by decide +kernel
theorem dX12_rain_125 : decode cX12_rain 125 = .ok (.isub, 1) := by decide +kernel
theorem dX12_rain_126 : decode cX12_rain 126 = .ok (.i2l, 1) := by decide +kernel
theorem dX12_rain_127 : decode cX12_rain 127 = .ok (.lmul, 1) := by decide +kernel
theorem dX12_rain_128 : decode cX12_rain 128 = .ok (.lstore 9, 2) := by decide +kernel
theorem dX12_rain_130 : decode cX12_rain 130 = .ok (.iinc 11 1, 3) := by decide +kernel
theorem dX12_rain_133 : decode cX12_rain 133 = .ok (.goto (-34), 3) := by decide +kernel
theorem dX12_rain_136 : decode cX12_rain 136 = .ok (.lload 4, 2) := by decide +kernel
theorem dX12_rain_138 : decode cX12_rain 138 = .ok (.lload 9, 2) := by decide +kernel
theorem dX12_rain_140 : decode cX12_rain 140 = .ok (.ladd, 1) := by decide +kernel
theorem dX12_rain_141 : decode cX12_rain 141 = .ok (.lstore 4, 2) := by decide +kernel
theorem dX12_rain_143 : decode cX12_rain 143 = .ok (.iinc 8 1, 3) := by decide +kernel
theorem dX12_rain_146 : decode cX12_rain 146 = .ok (.goto (-71), 3) := by decide +kernel
theorem dX12_rain_149 : decode cX12_rain 149 = .ok (.lload 4, 2) := by decide +kernel
theorem dX12_rain_151 : decode cX12_rain 151 = .ok (.lload 6, 2) := by decide +kernel
theorem dX12_rain_153 : decode cX12_rain 153 = .ok (.invokestatic 115, 3) := by decide +kernel
theorem dX12_rain_156 : decode cX12_rain 156 = .ok (.lstore 8, 2) := by decide +kernel
theorem dX12_rain_158 : decode cX12_rain 158 = .ok (.aload_n 0, 1) := by decide +kernel
theorem dX12_rain_159 : decode cX12_rain 159 = .ok (.iconst 0, 1) := by decide +kernel
theorem dX12_rain_160 : decode cX12_rain 160 = .ok (.putfield 119, 3) := by decide +kernel
theorem dX12_rain_163 : decode cX12_rain 163 = .ok (.aload_n 0, 1) := by decide +kernel
theorem dX12_rain_164 : decode cX12_rain 164 = .ok (.lload 4, 2) := by decide +kernel
theorem dX12_rain_166 : decode cX12_rain 166 = .ok (.lload 8, 2) := by decide +kernel
theorem dX12_rain_168 : decode cX12_rain 168 = .ok (.ldiv, 1) := by decide +kernel
theorem dX12_rain_169 : decode cX12_rain 169 = .ok (.invokevirtual 359, 3) := by decide +kernel
theorem dX12_rain_172 : decode cX12_rain 172 = .ok (.aload_n 0, 1) := by decide +kernel
theorem dX12_rain_173 : decode cX12_rain 173 = .ok (.lload 6, 2) := by decide +kernel
theorem dX12_rain_175 : decode cX12_rain 175 = .ok (.lload 8, 2) := by decide +kernel
theorem dX12_rain_177 : decode cX12_rain 177 = .ok (.ldiv, 1) := by decide +kernel
theorem dX12_rain_178 : decode cX12_rain 178 = .ok (.invokevirtual 359, 3) := by decide +kernel
theorem dX12_rain_181 : decode cX12_rain 181 = .ok (.iconst 0, 1) := by decide +kernel
theorem dX12_rain_182 : decode cX12_rain 182 = .ok (.ireturn, 1) := by decide +kernel
theorem dX12_earns_0 : decode cX12_earns 0 = .ok (.iload_n 0, 1) := by decide +kernel
theorem dX12_earns_1 : decode cX12_earns 1 = .ok (.iload_n 1, 1) := by decide +kernel
theorem dX12_earns_2 : decode cX12_earns 2 = .ok (.iadd, 1) := by decide +kernel
theorem dX12_earns_3 : decode cX12_earns 3 = .ok (.ifCond .ne 7, 3) := by decide +kernel
theorem dX12_earns_6 : decode cX12_earns 6 = .ok (.iconst 0, 1) := by decide +kernel
theorem dX12_earns_7 : decode cX12_earns 7 = .ok (.goto 14, 3) := by decide +kernel
theorem dX12_earns_10 : decode cX12_earns 10 = .ok (.iload_n 2, 1) := by decide +kernel
theorem dX12_earns_11 : decode cX12_earns 11 = .ok (.iload_n 0, 1) := by decide +kernel
theorem dX12_earns_12 : decode cX12_earns 12 = .ok (.imul, 1) := by decide +kernel
theorem dX12_earns_13 : decode cX12_earns 13 = .ok (.iload_n 0, 1) := by decide +kernel
theorem dX12_earns_14 : decode cX12_earns 14 = .ok (.iload_n 1, 1) := by decide +kernel
theorem dX12_earns_15 : decode cX12_earns 15 = .ok (.iadd, 1) := by decide +kernel
theorem dX12_earns_16 : decode cX12_earns 16 = .ok (.idiv, 1) := by decide +kernel
theorem dX12_earns_17 : decode cX12_earns 17 = .ok (.iload_n 3, 1) := by decide +kernel
theorem dX12_earns_18 : decode cX12_earns 18 = .ok (.iload_n 0, 1) := by decide +kernel
theorem dX12_earns_19 : decode cX12_earns 19 = .ok (.imul, 1) := by decide +kernel
theorem dX12_earns_20 : decode cX12_earns 20 = .ok (.isub, 1) := by decide +kernel
theorem dX12_earns_21 : decode cX12_earns 21 = .ok (.ireturn, 1) := by decide +kernel
theorem dX12_isRest_0 : decode cX12_isRest 0 = .ok (.iconst 1, 1) := by decide +kernel
theorem dX12_isRest_1 : decode cX12_isRest 1 = .ok (.istore 4, 2) := by decide +kernel
theorem dX12_isRest_3 : decode cX12_isRest 3 = .ok (.iconst 0, 1) := by decide +kernel
theorem dX12_isRest_4 : decode cX12_isRest 4 = .ok (.istore 5, 2) := by decide +kernel
theorem dX12_isRest_6 : decode cX12_isRest 6 = .ok (.iload 5, 2) := by decide +kernel
theorem dX12_isRest_8 : decode cX12_isRest 8 = .ok (.bipush 9, 2) := by decide +kernel
theorem dX12_isRest_10 : decode cX12_isRest 10 = .ok (.if_icmp .gt 39, 3) := by decide +kernel
theorem dX12_isRest_13 : decode cX12_isRest 13 = .ok (.iload 4, 2) := by decide +kernel
theorem dX12_isRest_15 : decode cX12_isRest 15 = .ok (.ifCond .eq 25, 3) := by decide +kernel
theorem dX12_isRest_18 : decode cX12_isRest 18 = .ok (.iload 5, 2) := by decide +kernel
theorem dX12_isRest_20 : decode cX12_isRest 20 = .ok (.iload_n 1, 1) := by decide +kernel
theorem dX12_isRest_21 : decode cX12_isRest 21 = .ok (.iload_n 2, 1) := by decide +kernel
theorem dX12_isRest_22 : decode cX12_isRest 22 = .ok (.iload_n 3, 1) := by decide +kernel
theorem dX12_isRest_23 : decode cX12_isRest 23 = .ok (.invokestatic 453, 3) := by decide +kernel
theorem dX12_isRest_26 : decode cX12_isRest 26 = .ok (.iload_n 0, 1) := by decide +kernel
theorem dX12_isRest_27 : decode cX12_isRest 27 = .ok (.iload_n 1, 1) := by decide +kernel
theorem dX12_isRest_28 : decode cX12_isRest 28 = .ok (.iload_n 2, 1) := by decide +kernel
theorem dX12_isRest_29 : decode cX12_isRest 29 = .ok (.iload_n 3, 1) := by decide +kernel
theorem dX12_isRest_30 : decode cX12_isRest 30 = .ok (.invokestatic 453, 3) := by decide +kernel
theorem dX12_isRest_33 : decode cX12_isRest 33 = .ok (.if_icmp .gt 7, 3) := by decide +kernel
theorem dX12_isRest_36 : decode cX12_isRest 36 = .ok (.iconst 1, 1) := by decide +kernel
theorem dX12_isRest_37 : decode cX12_isRest 37 = .ok (.goto 4, 3) := by decide +kernel
theorem dX12_isRest_40 : decode cX12_isRest 40 = .ok (.iconst 0, 1) := by decide +kernel
theorem dX12_isRest_41 : decode cX12_isRest 41 = .ok (.istore 4, 2) := by decide +kernel
theorem dX12_isRest_43 : decode cX12_isRest 43 = .ok (.iinc 5 1, 3) := by decide +kernel
theorem dX12_isRest_46 : decode cX12_isRest 46 = .ok (.goto (-40), 3) := by decide +kernel
theorem dX12_isRest_49 : decode cX12_isRest 49 = .ok (.iload 4, 2) := by decide +kernel
theorem dX12_isRest_51 : decode cX12_isRest 51 = .ok (.ireturn, 1) := by decide +kernel
theorem dX12_rests_0 : decode cX12_rests 0 = .ok (.aload_n 0, 1) := by decide +kernel
theorem dX12_rests_1 : decode cX12_rests 1 = .ok (.iconst 0, 1) := by decide +kernel
theorem dX12_rests_2 : decode cX12_rests 2 = .ok (.putfield 112, 3) := by decide +kernel
theorem dX12_rests_5 : decode cX12_rests 5 = .ok (.iload_n 1, 1) := by decide +kernel
theorem dX12_rests_6 : decode cX12_rests 6 = .ok (.i2l, 1) := by decide +kernel
theorem dX12_rests_7 : decode cX12_rests 7 = .ok (.lconst 1, 1) := by decide +kernel
theorem dX12_rests_8 : decode cX12_rests 8 = .ok (.ldc2_w 369, 3) := by decide +kernel
theorem dX12_rests_11 : decode cX12_rests 11 = .ok (.invokestatic 122, 3) := by decide +kernel
theorem dX12_rests_14 : decode cX12_rests 14 = .ok (.ifCond .eq 15, 3) := by decide +kernel
theorem dX12_rests_17 : decode cX12_rests 17 = .ok (.iload_n 2, 1) := by decide +kernel
theorem dX12_rests_18 : decode cX12_rests 18 = .ok (.i2l, 1) := by decide +kernel
theorem dX12_rests_19 : decode cX12_rests 19 = .ok (.lconst 0, 1) := by decide +kernel
theorem dX12_rests_20 : decode cX12_rests 20 = .ok (.ldc2_w 302, 3) := by decide +kernel
theorem dX12_rests_23 : decode cX12_rests 23 = .ok (.invokestatic 122, 3) := by decide +kernel
theorem dX12_rests_26 : decode cX12_rests 26 = .ok (.ifCond .ne 5, 3) := by decide +kernel
theorem dX12_rests_29 : decode cX12_rests 29 = .ok (.iconst (-1), 1) := by decide +kernel
theorem dX12_rests_30 : decode cX12_rests 30 = .ok (.ireturn, 1) := by decide +kernel
theorem dX12_rests_31 : decode cX12_rests 31 = .ok (.iconst 0, 1) := by decide +kernel
theorem dX12_rests_32 : decode cX12_rests 32 = .ok (.istore_n 3, 1) := by decide +kernel
theorem dX12_rests_33 : decode cX12_rests 33 = .ok (.aload_n 0, 1) := by decide +kernel
theorem dX12_rests_34 : decode cX12_rests 34 = .ok (.iconst 0, 1) := by decide +kernel
theorem dX12_rests_35 : decode cX12_rests 35 = .ok (.putfield 119, 3) := by decide +kernel
theorem dX12_rests_38 : decode cX12_rests 38 = .ok (.iconst 0, 1) := by decide +kernel
theorem dX12_rests_39 : decode cX12_rests 39 = .ok (.istore 4, 2) := by decide +kernel
theorem dX12_rests_41 : decode cX12_rests 41 = .ok (.iload 4, 2) := by decide +kernel
theorem dX12_rests_43 : decode cX12_rests 43 = .ok (.bipush 9, 2) := by decide +kernel
theorem dX12_rests_45 : decode cX12_rests 45 = .ok (.if_icmp .gt 70, 3) := by decide +kernel
theorem dX12_rests_48 : decode cX12_rests 48 = .ok (.iconst 0, 1) := by decide +kernel
theorem dX12_rests_49 : decode cX12_rests 49 = .ok (.istore 5, 2) := by decide +kernel
theorem dX12_rests_51 : decode cX12_rests 51 = .ok (.iload 5, 2) := by decide +kernel
theorem dX12_rests_53 : decode cX12_rests 53 = .ok (.bipush 9, 2) := by decide +kernel
theorem dX12_rests_55 : decode cX12_rests 55 = .ok (.if_icmp .gt 54, 3) := by decide +kernel
theorem dX12_rests_58 : decode cX12_rests 58 = .ok (.iload 4, 2) := by decide +kernel
theorem dX12_rests_60 : decode cX12_rests 60 = .ok (.iload 5, 2) := by decide +kernel
theorem dX12_rests_62 : decode cX12_rests 62 = .ok (.iload_n 1, 1) := by decide +kernel
theorem dX12_rests_63 : decode cX12_rests 63 = .ok (.iload_n 2, 1) := by decide +kernel
theorem dX12_rests_64 : decode cX12_rests 64 = .ok (.invokestatic 457, 3) := by decide +kernel
theorem dX12_rests_67 : decode cX12_rests 67 = .ok (.ifCond .eq 36, 3) := by decide +kernel
theorem dX12_rests_70 : decode cX12_rests 70 = .ok (.iload 5, 2) := by decide +kernel
theorem dX12_rests_72 : decode cX12_rests 72 = .ok (.iload 4, 2) := by decide +kernel
theorem dX12_rests_74 : decode cX12_rests 74 = .ok (.iload_n 1, 1) := by decide +kernel
theorem dX12_rests_75 : decode cX12_rests 75 = .ok (.iload_n 2, 1) := by decide +kernel
theorem dX12_rests_76 : decode cX12_rests 76 = .ok (.invokestatic 457, 3) := by decide +kernel
theorem dX12_rests_79 : decode cX12_rests 79 = .ok (.ifCond .eq 24, 3) := by decide +kernel
theorem dX12_rests_82 : decode cX12_rests 82 = .ok (.iload_n 3, 1) := by decide +kernel
theorem dX12_rests_83 : decode cX12_rests 83 = .ok (.ifCond .ne 17, 3) := by decide +kernel
theorem dX12_rests_86 : decode cX12_rests 86 = .ok (.aload_n 0, 1) := by decide +kernel
theorem dX12_rests_87 : decode cX12_rests 87 = .ok (.iload 4, 2) := by decide +kernel
theorem dX12_rests_89 : decode cX12_rests 89 = .ok (.i2l, 1) := by decide +kernel
theorem dX12_rests_90 : decode cX12_rests 90 = .ok (.invokevirtual 359, 3) := by decide +kernel
theorem dX12_rests_93 : decode cX12_rests 93 = .ok (.aload_n 0, 1) := by decide +kernel
theorem dX12_rests_94 : decode cX12_rests 94 = .ok (.iload 5, 2) := by decide +kernel
theorem dX12_rests_96 : decode cX12_rests 96 = .ok (.i2l, 1) := by decide +kernel
theorem dX12_rests_97 : decode cX12_rests 97 = .ok (.invokevirtual 359, 3) := by decide +kernel
theorem dX12_rests_100 : decode cX12_rests 100 = .ok (.iinc 3 1, 3) := by decide +kernel
theorem dX12_rests_103 : decode cX12_rests 103 = .ok (.iinc 5 1, 3) := by decide +kernel
theorem dX12_rests_106 : decode cX12_rests 106 = .ok (.goto (-55), 3) := by decide +kernel
theorem dX12_rests_109 : decode cX12_rests 109 = .ok (.iinc 4 1, 3) := by decide +kernel
theorem dX12_rests_112 : decode cX12_rests 112 = .ok (.goto (-71), 3) := by decide +kernel
theorem dX12_rests_115 : decode cX12_rests 115 = .ok (.iload_n 3, 1) := by decide +kernel
theorem dX12_rests_116 : decode cX12_rests 116 = .ok (.ireturn, 1) := by decide +kernel
theorem dX12_draws_0 : decode cX12_draws 0 = .ok (.aload_n 0, 1) := by decide +kernel
theorem dX12_draws_1 : decode cX12_draws 1 = .ok (.aload_n 0, 1) := by decide +kernel
theorem dX12_draws_2 : decode cX12_draws 2 = .ok (.getfield 461, 3) := by decide +kernel
theorem dX12_draws_5 : decode cX12_draws 5 = .ok (.ldc_w 464, 3) := by decide +kernel
theorem dX12_draws_8 : decode cX12_draws 8 = .ok (.imul, 1) := by decide +kernel
theorem dX12_draws_9 : decode cX12_draws 9 = .ok (.sipush 12345, 3) := by decide +kernel
theorem dX12_draws_12 : decode cX12_draws 12 = .ok (.iadd, 1) := by decide +kernel
theorem dX12_draws_13 : decode cX12_draws 13 = .ok (.putfield 461, 3) := by decide +kernel
theorem dX12_draws_16 : decode cX12_draws 16 = .ok (.aload_n 0, 1) := by decide +kernel
theorem dX12_draws_17 : decode cX12_draws 17 = .ok (.getfield 461, 3) := by decide +kernel
theorem dX12_draws_20 : decode cX12_draws 20 = .ok (.bipush 16, 2) := by decide +kernel
theorem dX12_draws_22 : decode cX12_draws 22 = .ok (.iushr, 1) := by decide +kernel
theorem dX12_draws_23 : decode cX12_draws 23 = .ok (.iload_n 1, 1) := by decide +kernel
theorem dX12_draws_24 : decode cX12_draws 24 = .ok (.irem, 1) := by decide +kernel
theorem dX12_draws_25 : decode cX12_draws 25 = .ok (.ireturn, 1) := by decide +kernel
theorem dX12_summers_0 : decode cX12_summers 0 = .ok (.aload_n 0, 1) := by decide +kernel
theorem dX12_summers_1 : decode cX12_summers 1 = .ok (.iconst 0, 1) := by decide +kernel
theorem dX12_summers_2 : decode cX12_summers 2 = .ok (.putfield 112, 3) := by decide +kernel
theorem dX12_summers_5 : decode cX12_summers 5 = .ok (.iload_n 2, 1) := by decide +kernel
theorem dX12_summers_6 : decode cX12_summers 6 = .ok (.i2l, 1) := by decide +kernel
theorem dX12_summers_7 : decode cX12_summers 7 = .ok (.lconst 1, 1) := by decide +kernel
theorem dX12_summers_8 : decode cX12_summers 8 = .ok (.ldc2_w 398, 3) := by decide +kernel
theorem dX12_summers_11 : decode cX12_summers 11 = .ok (.invokestatic 122, 3) := by decide +kernel
theorem dX12_summers_14 : decode cX12_summers 14 = .ok (.ifCond .ne 5, 3) := by decide +kernel
theorem dX12_summers_17 : decode cX12_summers 17 = .ok (.iconst (-1), 1) := by decide +kernel
theorem dX12_summers_18 : decode cX12_summers 18 = .ok (.ireturn, 1) := by decide +kernel
theorem dX12_summers_19 : decode cX12_summers 19 = .ok (.aload_n 0, 1) := by decide +kernel
theorem dX12_summers_20 : decode cX12_summers 20 = .ok (.iload_n 1, 1) := by decide +kernel
theorem dX12_summers_21 : decode cX12_summers 21 = .ok (.putfield 461, 3) := by decide +kernel
theorem dX12_summers_24 : decode cX12_summers 24 = .ok (.iconst 0, 1) := by decide +kernel
theorem dX12_summers_25 : decode cX12_summers 25 = .ok (.istore_n 3, 1) := by decide +kernel
theorem dX12_summers_26 : decode cX12_summers 26 = .ok (.aload_n 0, 1) := by decide +kernel
theorem dX12_summers_27 : decode cX12_summers 27 = .ok (.invokevirtual 392, 3) := by decide +kernel
theorem dX12_summers_30 : decode cX12_summers 30 = .ok (.iconst 0, 1) := by decide +kernel
theorem dX12_summers_31 : decode cX12_summers 31 = .ok (.istore 4, 2) := by decide +kernel
theorem dX12_summers_33 : decode cX12_summers 33 = .ok (.iload 4, 2) := by decide +kernel
theorem dX12_summers_35 : decode cX12_summers 35 = .ok (.iload_n 2, 1) := by decide +kernel
theorem dX12_summers_36 : decode cX12_summers 36 = .ok (.if_icmp .ge 100, 3) := by decide +kernel
theorem dX12_summers_39 : decode cX12_summers 39 = .ok (.aload_n 0, 1) := by decide +kernel
theorem dX12_summers_40 : decode cX12_summers 40 = .ok (.iconst 4, 1) := by decide +kernel
theorem dX12_summers_41 : decode cX12_summers 41 = .ok (.invokevirtual 465, 3) := by decide +kernel
theorem dX12_summers_44 : decode cX12_summers 44 = .ok (.istore 5, 2) := by decide +kernel
theorem dX12_summers_46 : decode cX12_summers 46 = .ok (.iload 5, 2) := by decide +kernel
theorem dX12_summers_48 : decode cX12_summers 48 = .ok (.iconst 2, 1) := by decide +kernel
theorem dX12_summers_49 : decode cX12_summers 49 = .ok (.if_icmp .ge 14, 3) := by decide +kernel
theorem dX12_summers_52 : decode cX12_summers 52 = .ok (.aload_n 0, 1) := by decide +kernel
theorem dX12_summers_53 : decode cX12_summers 53 = .ok (.aload_n 0, 1) := by decide +kernel
theorem dX12_summers_54 : decode cX12_summers 54 = .ok (.getfield 39, 3) := by decide +kernel
theorem dX12_summers_57 : decode cX12_summers 57 = .ok (.invokevirtual 312, 3) := by decide +kernel
theorem dX12_summers_60 : decode cX12_summers 60 = .ok (.goto 70, 3) := by decide +kernel
theorem dX12_summers_63 : decode cX12_summers 63 = .ok (.iload 5, 2) := by decide +kernel
theorem dX12_summers_65 : decode cX12_summers 65 = .ok (.iconst 3, 1) := by decide +kernel
theorem dX12_summers_66 : decode cX12_summers 66 = .ok (.if_icmp .ne 28, 3) := by decide +kernel
theorem dX12_summers_69 : decode cX12_summers 69 = .ok (.iload_n 3, 1) := by decide +kernel
theorem dX12_summers_70 : decode cX12_summers 70 = .ok (.aload_n 0, 1) := by decide +kernel
theorem dX12_summers_71 : decode cX12_summers 71 = .ok (.aload_n 0, 1) := by decide +kernel
theorem dX12_summers_72 : decode cX12_summers 72 = .ok (.getfield 39, 3) := by decide +kernel
theorem dX12_summers_75 : decode cX12_summers 75 = .ok (.invokevirtual 366, 3) := by decide +kernel
theorem dX12_summers_78 : decode cX12_summers 78 = .ok (.ifCond .eq 7, 3) := by decide +kernel
theorem dX12_summers_81 : decode cX12_summers 81 = .ok (.iconst 1, 1) := by decide +kernel
theorem dX12_summers_82 : decode cX12_summers 82 = .ok (.goto 4, 3) := by decide +kernel
theorem dX12_summers_85 : decode cX12_summers 85 = .ok (.iconst 0, 1) := by decide +kernel
theorem dX12_summers_86 : decode cX12_summers 86 = .ok (.invokestatic 151, 3) := by decide +kernel
theorem dX12_summers_89 : decode cX12_summers 89 = .ok (.iadd, 1) := by decide +kernel
theorem dX12_summers_90 : decode cX12_summers 90 = .ok (.istore_n 3, 1) := by decide +kernel
theorem dX12_summers_91 : decode cX12_summers 91 = .ok (.goto 39, 3) := by decide +kernel
theorem dX12_summers_94 : decode cX12_summers 94 = .ok (.aload_n 0, 1) := by decide +kernel
theorem dX12_summers_95 : decode cX12_summers 95 = .ok (.getfield 126, 3) := by decide +kernel
theorem dX12_summers_98 : decode cX12_summers 98 = .ok (.ifCond .le 32, 3) := by decide +kernel
theorem dX12_summers_101 : decode cX12_summers 101 = .ok (.aload_n 0, 1) := by decide +kernel
theorem dX12_summers_102 : decode cX12_summers 102 = .ok (.aload_n 0, 1) := by decide +kernel
theorem dX12_summers_103 : decode cX12_summers 103 = .ok (.getfield 126, 3) := by decide +kernel
theorem dX12_summers_106 : decode cX12_summers 106 = .ok (.invokevirtual 465, 3) := by decide +kernel
theorem dX12_summers_109 : decode cX12_summers 109 = .ok (.istore 6, 2) := by decide +kernel
theorem dX12_summers_111 : decode cX12_summers 111 = .ok (.aload_n 0, 1) := by decide +kernel
theorem dX12_summers_112 : decode cX12_summers 112 = .ok (.aload_n 0, 1) := by decide +kernel
theorem dX12_summers_113 : decode cX12_summers 113 = .ok (.getfield 39, 3) := by decide +kernel
theorem dX12_summers_116 : decode cX12_summers 116 = .ok (.iload 6, 2) := by decide +kernel
theorem dX12_summers_118 : decode cX12_summers 118 = .ok (.aload_n 0, 1) := by decide +kernel
theorem dX12_summers_119 : decode cX12_summers 119 = .ok (.aload_n 0, 1) := by decide +kernel
theorem dX12_summers_120 : decode cX12_summers 120 = .ok (.getfield 13, 3) := by decide +kernel
theorem dX12_summers_123 : decode cX12_summers 123 = .ok (.invokevirtual 465, 3) := by decide +kernel
theorem dX12_summers_126 : decode cX12_summers 126 = .ok (.invokevirtual 331, 3) := by decide +kernel
theorem dX12_summers_129 : decode cX12_summers 129 = .ok (.pop, 1) := by decide +kernel
theorem dX12_summers_130 : decode cX12_summers 130 = .ok (.iinc 4 1, 3) := by decide +kernel
theorem dX12_summers_133 : decode cX12_summers 133 = .ok (.goto (-100), 3) := by decide +kernel
theorem dX12_summers_136 : decode cX12_summers 136 = .ok (.aload_n 0, 1) := by decide +kernel
theorem dX12_summers_137 : decode cX12_summers 137 = .ok (.iconst 0, 1) := by decide +kernel
theorem dX12_summers_138 : decode cX12_summers 138 = .ok (.putfield 119, 3) := by decide +kernel
theorem dX12_summers_141 : decode cX12_summers 141 = .ok (.aload_n 0, 1) := by decide +kernel
theorem dX12_summers_142 : decode cX12_summers 142 = .ok (.aload_n 0, 1) := by decide +kernel
theorem dX12_summers_143 : decode cX12_summers 143 = .ok (.aload_n 0, 1) := by decide +kernel
theorem dX12_summers_144 : decode cX12_summers 144 = .ok (.getfield 39, 3) := by decide +kernel
theorem dX12_summers_147 : decode cX12_summers 147 = .ok (.invokevirtual 371, 3) := by decide +kernel
theorem dX12_summers_150 : decode cX12_summers 150 = .ok (.invokestatic 251, 3) := by decide +kernel
theorem dX12_summers_153 : decode cX12_summers 153 = .ok (.i2l, 1) := by decide +kernel
theorem dX12_summers_154 : decode cX12_summers 154 = .ok (.invokevirtual 359, 3) := by decide +kernel
theorem dX12_summers_157 : decode cX12_summers 157 = .ok (.aload_n 0, 1) := by decide +kernel
theorem dX12_summers_158 : decode cX12_summers 158 = .ok (.aload_n 0, 1) := by decide +kernel
theorem dX12_summers_159 : decode cX12_summers 159 = .ok (.aload_n 0, 1) := by decide +kernel
theorem dX12_summers_160 : decode cX12_summers 160 = .ok (.getfield 39, 3) := by decide +kernel
theorem dX12_summers_163 : decode cX12_summers 163 = .ok (.iconst (-1), 1) := by decide +kernel
theorem dX12_summers_164 : decode cX12_summers 164 = .ok (.invokevirtual 288, 3) := by decide +kernel
theorem dX12_summers_167 : decode cX12_summers 167 = .ok (.invokestatic 251, 3) := by decide +kernel
theorem dX12_summers_170 : decode cX12_summers 170 = .ok (.i2l, 1) := by decide +kernel
theorem dX12_summers_171 : decode cX12_summers 171 = .ok (.invokevirtual 359, 3) := by decide +kernel
theorem dX12_summers_174 : decode cX12_summers 174 = .ok (.iload_n 3, 1) := by decide +kernel
theorem dX12_summers_175 : decode cX12_summers 175 = .ok (.ireturn, 1) := by decide +kernel
theorem dX12_keep_0 : decode cX12_keep 0 = .ok (.aload_n 0, 1) := by decide +kernel
theorem dX12_keep_1 : decode cX12_keep 1 = .ok (.iconst 0, 1) := by decide +kernel
theorem dX12_keep_2 : decode cX12_keep 2 = .ok (.putfield 112, 3) := by decide +kernel
theorem dX12_keep_5 : decode cX12_keep 5 = .ok (.iload_n 1, 1) := by decide +kernel
theorem dX12_keep_6 : decode cX12_keep 6 = .ok (.i2l, 1) := by decide +kernel
theorem dX12_keep_7 : decode cX12_keep 7 = .ok (.lconst 0, 1) := by decide +kernel
theorem dX12_keep_8 : decode cX12_keep 8 = .ok (.ldc2_w 468, 3) := by decide +kernel
theorem dX12_keep_11 : decode cX12_keep 11 = .ok (.invokestatic 122, 3) := by decide +kernel
theorem dX12_keep_14 : decode cX12_keep 14 = .ok (.ifCond .ne 5, 3) := by decide +kernel
theorem dX12_keep_17 : decode cX12_keep 17 = .ok (.iconst 0, 1) := by decide +kernel
theorem dX12_keep_18 : decode cX12_keep 18 = .ok (.ireturn, 1) := by decide +kernel
theorem dX12_keep_19 : decode cX12_keep 19 = .ok (.aload_n 0, 1) := by decide +kernel
theorem dX12_keep_20 : decode cX12_keep 20 = .ok (.getfield 102, 3) := by decide +kernel
theorem dX12_keep_23 : decode cX12_keep 23 = .ok (.iload_n 1, 1) := by decide +kernel
theorem dX12_keep_24 : decode cX12_keep 24 = .ok (.iconst 1, 1) := by decide +kernel
theorem dX12_keep_25 : decode cX12_keep 25 = .ok (.bastore, 1) := by decide +kernel
theorem dX12_keep_26 : decode cX12_keep 26 = .ok (.aload_n 0, 1) := by decide +kernel
theorem dX12_keep_27 : decode cX12_keep 27 = .ok (.getfield 106, 3) := by decide +kernel
theorem dX12_keep_30 : decode cX12_keep 30 = .ok (.iload_n 1, 1) := by decide +kernel
theorem dX12_keep_31 : decode cX12_keep 31 = .ok (.aload_n 0, 1) := by decide +kernel
theorem dX12_keep_32 : decode cX12_keep 32 = .ok (.getfield 194, 3) := by decide +kernel
theorem dX12_keep_35 : decode cX12_keep 35 = .ok (.iastore, 1) := by decide +kernel
theorem dX12_keep_36 : decode cX12_keep 36 = .ok (.iconst 0, 1) := by decide +kernel
theorem dX12_keep_37 : decode cX12_keep 37 = .ok (.istore_n 2, 1) := by decide +kernel
theorem dX12_keep_38 : decode cX12_keep 38 = .ok (.iload_n 2, 1) := by decide +kernel
theorem dX12_keep_39 : decode cX12_keep 39 = .ok (.bipush 43, 2) := by decide +kernel
theorem dX12_keep_41 : decode cX12_keep 41 = .ok (.if_icmp .ge 26, 3) := by decide +kernel
theorem dX12_keep_44 : decode cX12_keep 44 = .ok (.aload_n 0, 1) := by decide +kernel
theorem dX12_keep_45 : decode cX12_keep 45 = .ok (.getfield 109, 3) := by decide +kernel
theorem dX12_keep_48 : decode cX12_keep 48 = .ok (.bipush 43, 2) := by decide +kernel
theorem dX12_keep_50 : decode cX12_keep 50 = .ok (.iload_n 1, 1) := by decide +kernel
theorem dX12_keep_51 : decode cX12_keep 51 = .ok (.imul, 1) := by decide +kernel
theorem dX12_keep_52 : decode cX12_keep 52 = .ok (.iload_n 2, 1) := by decide +kernel
theorem dX12_keep_53 : decode cX12_keep 53 = .ok (.iadd, 1) := by decide +kernel
theorem dX12_keep_54 : decode cX12_keep 54 = .ok (.aload_n 0, 1) := by decide +kernel
theorem dX12_keep_55 : decode cX12_keep 55 = .ok (.getfield 36, 3) := by decide +kernel
theorem dX12_keep_58 : decode cX12_keep 58 = .ok (.iload_n 2, 1) := by decide +kernel
theorem dX12_keep_59 : decode cX12_keep 59 = .ok (.iaload, 1) := by decide +kernel
theorem dX12_keep_60 : decode cX12_keep 60 = .ok (.iastore, 1) := by decide +kernel
theorem dX12_keep_61 : decode cX12_keep 61 = .ok (.iinc 2 1, 3) := by decide +kernel
theorem dX12_keep_64 : decode cX12_keep 64 = .ok (.goto (-26), 3) := by decide +kernel
theorem dX12_keep_67 : decode cX12_keep 67 = .ok (.iconst 1, 1) := by decide +kernel
theorem dX12_keep_68 : decode cX12_keep 68 = .ok (.ireturn, 1) := by decide +kernel
theorem dX12_again_0 : decode cX12_again 0 = .ok (.aload_n 0, 1) := by decide +kernel
theorem dX12_again_1 : decode cX12_again 1 = .ok (.iconst 0, 1) := by decide +kernel
theorem dX12_again_2 : decode cX12_again 2 = .ok (.putfield 112, 3) := by decide +kernel
theorem dX12_again_5 : decode cX12_again 5 = .ok (.iload_n 1, 1) := by decide +kernel
theorem dX12_again_6 : decode cX12_again 6 = .ok (.i2l, 1) := by decide +kernel
theorem dX12_again_7 : decode cX12_again 7 = .ok (.lconst 0, 1) := by decide +kernel
theorem dX12_again_8 : decode cX12_again 8 = .ok (.ldc2_w 468, 3) := by decide +kernel
theorem dX12_again_11 : decode cX12_again 11 = .ok (.invokestatic 122, 3) := by decide +kernel
theorem dX12_again_14 : decode cX12_again 14 = .ok (.ifCond .eq 25, 3) := by decide +kernel
theorem dX12_again_17 : decode cX12_again 17 = .ok (.aload_n 0, 1) := by decide +kernel
theorem dX12_again_18 : decode cX12_again 18 = .ok (.getfield 102, 3) := by decide +kernel
theorem dX12_again_21 : decode cX12_again 21 = .ok (.iload_n 1, 1) := by decide +kernel
theorem dX12_again_22 : decode cX12_again 22 = .ok (.baload, 1) := by decide +kernel
theorem dX12_again_23 : decode cX12_again 23 = .ok (.ifCond .eq 16, 3) := by decide +kernel
theorem dX12_again_26 : decode cX12_again 26 = .ok (.aload_n 0, 1) := by decide +kernel
theorem dX12_again_27 : decode cX12_again 27 = .ok (.getfield 106, 3) := by decide +kernel
theorem dX12_again_30 : decode cX12_again 30 = .ok (.iload_n 1, 1) := by decide +kernel
theorem dX12_again_31 : decode cX12_again 31 = .ok (.iaload, 1) := by decide +kernel
theorem dX12_again_32 : decode cX12_again 32 = .ok (.aload_n 0, 1) := by decide +kernel
theorem dX12_again_33 : decode cX12_again 33 = .ok (.getfield 194, 3) := by decide +kernel
theorem dX12_again_36 : decode cX12_again 36 = .ok (.if_icmp .eq 5, 3) := by decide +kernel
theorem dX12_again_39 : decode cX12_again 39 = .ok (.iconst 0, 1) := by decide +kernel
theorem dX12_again_40 : decode cX12_again 40 = .ok (.ireturn, 1) := by decide +kernel
theorem dX12_again_41 : decode cX12_again 41 = .ok (.iconst 0, 1) := by decide +kernel
theorem dX12_again_42 : decode cX12_again 42 = .ok (.istore_n 2, 1) := by decide +kernel
theorem dX12_again_43 : decode cX12_again 43 = .ok (.iload_n 2, 1) := by decide +kernel
theorem dX12_again_44 : decode cX12_again 44 = .ok (.bipush 43, 2) := by decide +kernel
theorem dX12_again_46 : decode cX12_again 46 = .ok (.if_icmp .ge 26, 3) := by decide +kernel
theorem dX12_again_49 : decode cX12_again 49 = .ok (.aload_n 0, 1) := by decide +kernel
theorem dX12_again_50 : decode cX12_again 50 = .ok (.getfield 36, 3) := by decide +kernel
theorem dX12_again_53 : decode cX12_again 53 = .ok (.iload_n 2, 1) := by decide +kernel
theorem dX12_again_54 : decode cX12_again 54 = .ok (.aload_n 0, 1) := by decide +kernel
theorem dX12_again_55 : decode cX12_again 55 = .ok (.getfield 109, 3) := by decide +kernel
theorem dX12_again_58 : decode cX12_again 58 = .ok (.bipush 43, 2) := by decide +kernel
theorem dX12_again_60 : decode cX12_again 60 = .ok (.iload_n 1, 1) := by decide +kernel
theorem dX12_again_61 : decode cX12_again 61 = .ok (.imul, 1) := by decide +kernel
theorem dX12_again_62 : decode cX12_again 62 = .ok (.iload_n 2, 1) := by decide +kernel
theorem dX12_again_63 : decode cX12_again 63 = .ok (.iadd, 1) := by decide +kernel
theorem dX12_again_64 : decode cX12_again 64 = .ok (.iaload, 1) := by decide +kernel
theorem dX12_again_65 : decode cX12_again 65 = .ok (.iastore, 1) := by decide +kernel
theorem dX12_again_66 : decode cX12_again 66 = .ok (.iinc 2 1, 3) := by decide +kernel
theorem dX12_again_69 : decode cX12_again 69 = .ok (.goto (-26), 3) := by decide +kernel
theorem dX12_again_72 : decode cX12_again 72 = .ok (.aload_n 0, 1) := by decide +kernel
theorem dX12_again_73 : decode cX12_again 73 = .ok (.iconst 0, 1) := by decide +kernel
theorem dX12_again_74 : decode cX12_again 74 = .ok (.putfield 191, 3) := by decide +kernel
theorem dX12_again_77 : decode cX12_again 77 = .ok (.iconst 1, 1) := by decide +kernel
theorem dX12_again_78 : decode cX12_again 78 = .ok (.ireturn, 1) := by decide +kernel
theorem dX12_count_0 : decode cX12_count 0 = .ok (.aload_n 0, 1) := by decide +kernel
theorem dX12_count_1 : decode cX12_count 1 = .ok (.iconst 0, 1) := by decide +kernel
theorem dX12_count_2 : decode cX12_count 2 = .ok (.putfield 112, 3) := by decide +kernel
theorem dX12_count_5 : decode cX12_count 5 = .ok (.iload_n 1, 1) := by decide +kernel
theorem dX12_count_6 : decode cX12_count 6 = .ok (.tableswitch 166 0 13 #[70, 75, 80, 88, 95, 102, 110, 118, 127, 137, 146, 151, 156, 161], 70) := by decide +kernel
theorem dX12_count_76 : decode cX12_count 76 = .ok (.aload_n 0, 1) := by decide +kernel
theorem dX12_count_77 : decode cX12_count 77 = .ok (.getfield 13, 3) := by decide +kernel
theorem dX12_count_80 : decode cX12_count 80 = .ok (.ireturn, 1) := by decide +kernel
theorem dX12_count_81 : decode cX12_count 81 = .ok (.aload_n 0, 1) := by decide +kernel
theorem dX12_count_82 : decode cX12_count 82 = .ok (.getfield 126, 3) := by decide +kernel
theorem dX12_count_85 : decode cX12_count 85 = .ok (.ireturn, 1) := by decide +kernel
theorem dX12_count_86 : decode cX12_count 86 = .ok (.aload_n 0, 1) := by decide +kernel
theorem dX12_count_87 : decode cX12_count 87 = .ok (.getfield 36, 3) := by decide +kernel
theorem dX12_count_90 : decode cX12_count 90 = .ok (.bipush 42, 2) := by decide +kernel
theorem dX12_count_92 : decode cX12_count 92 = .ok (.iaload, 1) := by decide +kernel
theorem dX12_count_93 : decode cX12_count 93 = .ok (.ireturn, 1) := by decide +kernel
theorem dX12_count_94 : decode cX12_count 94 = .ok (.aload_n 0, 1) := by decide +kernel
theorem dX12_count_95 : decode cX12_count 95 = .ok (.getfield 33, 3) := by decide +kernel
theorem dX12_count_98 : decode cX12_count 98 = .ok (.iconst 0, 1) := by decide +kernel
theorem dX12_count_99 : decode cX12_count 99 = .ok (.iaload, 1) := by decide +kernel
theorem dX12_count_100 : decode cX12_count 100 = .ok (.ireturn, 1) := by decide +kernel
theorem dX12_count_101 : decode cX12_count 101 = .ok (.aload_n 0, 1) := by decide +kernel
theorem dX12_count_102 : decode cX12_count 102 = .ok (.getfield 33, 3) := by decide +kernel
theorem dX12_count_105 : decode cX12_count 105 = .ok (.iconst 1, 1) := by decide +kernel
theorem dX12_count_106 : decode cX12_count 106 = .ok (.iaload, 1) := by decide +kernel
theorem dX12_count_107 : decode cX12_count 107 = .ok (.ireturn, 1) := by decide +kernel
theorem dX12_count_108 : decode cX12_count 108 = .ok (.aload_n 0, 1) := by decide +kernel
theorem dX12_count_109 : decode cX12_count 109 = .ok (.getfield 36, 3) := by decide +kernel
theorem dX12_count_112 : decode cX12_count 112 = .ok (.bipush 41, 2) := by decide +kernel
theorem dX12_count_114 : decode cX12_count 114 = .ok (.iaload, 1) := by decide +kernel
theorem dX12_count_115 : decode cX12_count 115 = .ok (.ireturn, 1) := by decide +kernel
theorem dX12_count_116 : decode cX12_count 116 = .ok (.aload_n 0, 1) := by decide +kernel
theorem dX12_count_117 : decode cX12_count 117 = .ok (.getfield 36, 3) := by decide +kernel
theorem dX12_count_120 : decode cX12_count 120 = .ok (.bipush 12, 2) := by decide +kernel
theorem dX12_count_122 : decode cX12_count 122 = .ok (.iaload, 1) := by decide +kernel
theorem dX12_count_123 : decode cX12_count 123 = .ok (.ireturn, 1) := by decide +kernel
theorem dX12_count_124 : decode cX12_count 124 = .ok (.aload_n 0, 1) := by decide +kernel
theorem dX12_count_125 : decode cX12_count 125 = .ok (.aload_n 0, 1) := by decide +kernel
theorem dX12_count_126 : decode cX12_count 126 = .ok (.getfield 36, 3) := by decide +kernel
theorem dX12_count_129 : decode cX12_count 129 = .ok (.invokevirtual 371, 3) := by decide +kernel
theorem dX12_count_132 : decode cX12_count 132 = .ok (.ireturn, 1) := by decide +kernel
theorem dX12_count_133 : decode cX12_count 133 = .ok (.aload_n 0, 1) := by decide +kernel
theorem dX12_count_134 : decode cX12_count 134 = .ok (.aload_n 0, 1) := by decide +kernel
theorem dX12_count_135 : decode cX12_count 135 = .ok (.getfield 36, 3) := by decide +kernel
theorem dX12_count_138 : decode cX12_count 138 = .ok (.iconst (-1), 1) := by decide +kernel
theorem dX12_count_139 : decode cX12_count 139 = .ok (.invokevirtual 288, 3) := by decide +kernel
theorem dX12_count_142 : decode cX12_count 142 = .ok (.ireturn, 1) := by decide +kernel
theorem dX12_count_143 : decode cX12_count 143 = .ok (.aload_n 0, 1) := by decide +kernel
theorem dX12_count_144 : decode cX12_count 144 = .ok (.aload_n 0, 1) := by decide +kernel
theorem dX12_count_145 : decode cX12_count 145 = .ok (.getfield 36, 3) := by decide +kernel
theorem dX12_count_148 : decode cX12_count 148 = .ok (.invokevirtual 352, 3) := by decide +kernel
theorem dX12_count_151 : decode cX12_count 151 = .ok (.ireturn, 1) := by decide +kernel
theorem dX12_count_152 : decode cX12_count 152 = .ok (.aload_n 0, 1) := by decide +kernel
theorem dX12_count_153 : decode cX12_count 153 = .ok (.getfield 188, 3) := by decide +kernel
theorem dX12_count_156 : decode cX12_count 156 = .ok (.ireturn, 1) := by decide +kernel
theorem dX12_count_157 : decode cX12_count 157 = .ok (.aload_n 0, 1) := by decide +kernel
theorem dX12_count_158 : decode cX12_count 158 = .ok (.getfield 191, 3) := by decide +kernel
theorem dX12_count_161 : decode cX12_count 161 = .ok (.ireturn, 1) := by decide +kernel
theorem dX12_count_162 : decode cX12_count 162 = .ok (.aload_n 0, 1) := by decide +kernel
theorem dX12_count_163 : decode cX12_count 163 = .ok (.getfield 119, 3) := by decide +kernel
theorem dX12_count_166 : decode cX12_count 166 = .ok (.ireturn, 1) := by decide +kernel
theorem dX12_count_167 : decode cX12_count 167 = .ok (.aload_n 0, 1) := by decide +kernel
theorem dX12_count_168 : decode cX12_count 168 = .ok (.getfield 133, 3) := by decide +kernel
theorem dX12_count_171 : decode cX12_count 171 = .ok (.ireturn, 1) := by decide +kernel
theorem dX12_count_172 : decode cX12_count 172 = .ok (.bipush (-100), 2) := by decide +kernel
theorem dX12_count_174 : decode cX12_count 174 = .ok (.ireturn, 1) := by decide +kernel
theorem dX12_row_0 : decode cX12_row 0 = .ok (.aload_n 0, 1) := by decide +kernel
theorem dX12_row_1 : decode cX12_row 1 = .ok (.iconst 0, 1) := by decide +kernel
theorem dX12_row_2 : decode cX12_row 2 = .ok (.putfield 112, 3) := by decide +kernel
theorem dX12_row_5 : decode cX12_row 5 = .ok (.iload_n 1, 1) := by decide +kernel
theorem dX12_row_6 : decode cX12_row 6 = .ok (.i2l, 1) := by decide +kernel
theorem dX12_row_7 : decode cX12_row 7 = .ok (.lconst 0, 1) := by decide +kernel
theorem dX12_row_8 : decode cX12_row 8 = .ok (.aload_n 0, 1) := by decide +kernel
theorem dX12_row_9 : decode cX12_row 9 = .ok (.getfield 119, 3) := by decide +kernel
theorem dX12_row_12 : decode cX12_row 12 = .ok (.iconst 1, 1) := by decide +kernel
theorem dX12_row_13 : decode cX12_row 13 = .ok (.isub, 1) := by decide +kernel
theorem dX12_row_14 : decode cX12_row 14 = .ok (.i2l, 1) := by decide +kernel
theorem dX12_row_15 : decode cX12_row 15 = .ok (.invokestatic 122, 3) := by decide +kernel
theorem dX12_row_18 : decode cX12_row 18 = .ok (.ifCond .ne 10, 3) := by decide +kernel
theorem dX12_row_21 : decode cX12_row 21 = .ok (.aload_n 0, 1) := by decide +kernel
theorem dX12_row_22 : decode cX12_row 22 = .ok (.iconst 1, 1) := by decide +kernel
theorem dX12_row_23 : decode cX12_row 23 = .ok (.putfield 112, 3) := by decide +kernel
theorem dX12_row_26 : decode cX12_row 26 = .ok (.lconst 0, 1) := by decide +kernel
theorem dX12_row_27 : decode cX12_row 27 = .ok (.lreturn, 1) := by decide +kernel
theorem dX12_row_28 : decode cX12_row 28 = .ok (.aload_n 0, 1) := by decide +kernel
theorem dX12_row_29 : decode cX12_row 29 = .ok (.getfield 9, 3) := by decide +kernel
theorem dX12_row_32 : decode cX12_row 32 = .ok (.iload_n 1, 1) := by decide +kernel
theorem dX12_row_33 : decode cX12_row 33 = .ok (.laload, 1) := by decide +kernel
theorem dX12_row_34 : decode cX12_row 34 = .ok (.lreturn, 1) := by decide +kernel
