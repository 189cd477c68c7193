-- needs: 08.links0
theorem d_X12_laysThick_21 : decode cX12_laysThick 21 = .ok (.iconst 1, 1) := by decide +kernel
theorem d_X12_laysThick_22 : decode cX12_laysThick 22 = .ok (.istore_n 3, 1) := by decide +kernel
theorem d_X12_laysThick_23 : decode cX12_laysThick 23 = .ok (.iload_n 3, 1) := by decide +kernel
theorem d_X12_laysThick_24 : decode cX12_laysThick 24 = .ok (.sipush 1024, 3) := by decide +kernel
theorem d_X12_laysThick_27 : decode cX12_laysThick 27 = .ok (.if_icmp .ge 198, 3) := by decide +kernel
theorem d_X12_laysThick_30 : decode cX12_laysThick 30 = .ok (.iload_n 3, 1) := by decide +kernel
theorem d_X12_laysThick_31 : decode cX12_laysThick 31 = .ok (.iload_n 1, 1) := by decide +kernel
theorem d_X12_laysThick_32 : decode cX12_laysThick 32 = .ok (.iconst (-1), 1) := by decide +kernel
theorem d_X12_laysThick_33 : decode cX12_laysThick 33 = .ok (.ixor, 1) := by decide +kernel
theorem d_X12_laysThick_34 : decode cX12_laysThick 34 = .ok (.iand, 1) := by decide +kernel
theorem d_X12_laysThick_35 : decode cX12_laysThick 35 = .ok (.ifCond .ne 184, 3) := by decide +kernel
theorem d_X12_laysThick_38 : decode cX12_laysThick 38 = .ok (.iload_n 3, 1) := by decide +kernel
theorem d_X12_laysThick_39 : decode cX12_laysThick 39 = .ok (.invokestatic 236, 3) := by decide +kernel
theorem d_X12_laysThick_42 : decode cX12_laysThick 42 = .ok (.iconst 2, 1) := by decide +kernel
theorem d_X12_laysThick_43 : decode cX12_laysThick 43 = .ok (.if_icmp .ge 6, 3) := by decide +kernel
theorem d_X12_laysThick_46 : decode cX12_laysThick 46 = .ok (.goto 173, 3) := by decide +kernel
theorem d_X12_laysThick_49 : decode cX12_laysThick 49 = .ok (.iconst 0, 1) := by decide +kernel
theorem d_X12_laysThick_50 : decode cX12_laysThick 50 = .ok (.istore 4, 2) := by decide +kernel
theorem d_X12_laysThick_52 : decode cX12_laysThick 52 = .ok (.iconst 0, 1) := by decide +kernel
theorem d_X12_laysThick_53 : decode cX12_laysThick 53 = .ok (.istore 5, 2) := by decide +kernel
theorem d_X12_laysThick_55 : decode cX12_laysThick 55 = .ok (.iload 5, 2) := by decide +kernel
theorem d_X12_laysThick_57 : decode cX12_laysThick 57 = .ok (.aload_n 0, 1) := by decide +kernel
theorem d_X12_laysThick_58 : decode cX12_laysThick 58 = .ok (.invokevirtual 194, 3) := by decide +kernel
theorem d_X12_laysThick_61 : decode cX12_laysThick 61 = .ok (.if_icmp .ge 64, 3) := by decide +kernel
theorem d_X12_laysThick_64 : decode cX12_laysThick 64 = .ok (.iload_n 2, 1) := by decide +kernel
theorem d_X12_laysThick_65 : decode cX12_laysThick 65 = .ok (.iload 5, 2) := by decide +kernel
theorem d_X12_laysThick_67 : decode cX12_laysThick 67 = .ok (.invokestatic 206, 3) := by decide +kernel
theorem d_X12_laysThick_70 : decode cX12_laysThick 70 = .ok (.ifCond .eq 49, 3) := by decide +kernel
theorem d_X12_laysThick_73 : decode cX12_laysThick 73 = .ok (.iload_n 3, 1) := by decide +kernel
theorem d_X12_laysThick_74 : decode cX12_laysThick 74 = .ok (.aload_n 0, 1) := by decide +kernel
theorem d_X12_laysThick_75 : decode cX12_laysThick 75 = .ok (.getfield 152, 3) := by decide +kernel
theorem d_X12_laysThick_78 : decode cX12_laysThick 78 = .ok (.aload_n 0, 1) := by decide +kernel
theorem d_X12_laysThick_79 : decode cX12_laysThick 79 = .ok (.getfield 99, 3) := by decide +kernel
theorem d_X12_laysThick_82 : decode cX12_laysThick 82 = .ok (.iconst 3, 1) := by decide +kernel
theorem d_X12_laysThick_83 : decode cX12_laysThick 83 = .ok (.iload 5, 2) := by decide +kernel
theorem d_X12_laysThick_85 : decode cX12_laysThick 85 = .ok (.iadd, 1) := by decide +kernel
theorem d_X12_laysThick_86 : decode cX12_laysThick 86 = .ok (.iaload, 1) := by decide +kernel
theorem d_X12_laysThick_87 : decode cX12_laysThick 87 = .ok (.iaload, 1) := by decide +kernel
theorem d_X12_laysThick_88 : decode cX12_laysThick 88 = .ok (.invokestatic 206, 3) := by decide +kernel
theorem d_X12_laysThick_91 : decode cX12_laysThick 91 = .ok (.ifCond .eq 28, 3) := by decide +kernel
theorem d_X12_laysThick_94 : decode cX12_laysThick 94 = .ok (.iload_n 3, 1) := by decide +kernel
theorem d_X12_laysThick_95 : decode cX12_laysThick 95 = .ok (.aload_n 0, 1) := by decide +kernel
theorem d_X12_laysThick_96 : decode cX12_laysThick 96 = .ok (.getfield 152, 3) := by decide +kernel
theorem d_X12_laysThick_99 : decode cX12_laysThick 99 = .ok (.aload_n 0, 1) := by decide +kernel
theorem d_X12_laysThick_100 : decode cX12_laysThick 100 = .ok (.getfield 99, 3) := by decide +kernel
theorem d_X12_laysThick_103 : decode cX12_laysThick 103 = .ok (.bipush 27, 2) := by decide +kernel
theorem d_X12_laysThick_105 : decode cX12_laysThick 105 = .ok (.iload 5, 2) := by decide +kernel
theorem d_X12_laysThick_107 : decode cX12_laysThick 107 = .ok (.iadd, 1) := by decide +kernel
theorem d_X12_laysThick_108 : decode cX12_laysThick 108 = .ok (.iaload, 1) := by decide +kernel
theorem d_X12_laysThick_109 : decode cX12_laysThick 109 = .ok (.iaload, 1) := by decide +kernel
theorem d_X12_laysThick_110 : decode cX12_laysThick 110 = .ok (.invokestatic 206, 3) := by decide +kernel
theorem d_X12_laysThick_113 : decode cX12_laysThick 113 = .ok (.ifCond .eq 6, 3) := by decide +kernel
theorem d_X12_laysThick_116 : decode cX12_laysThick 116 = .ok (.iinc 4 1, 3) := by decide +kernel
theorem d_X12_laysThick_119 : decode cX12_laysThick 119 = .ok (.iinc 5 1, 3) := by decide +kernel
theorem d_X12_laysThick_122 : decode cX12_laysThick 122 = .ok (.goto (-67), 3) := by decide +kernel
theorem d_X12_laysThick_125 : decode cX12_laysThick 125 = .ok (.iload_n 3, 1) := by decide +kernel
theorem d_X12_laysThick_126 : decode cX12_laysThick 126 = .ok (.invokestatic 236, 3) := by decide +kernel
theorem d_X12_laysThick_129 : decode cX12_laysThick 129 = .ok (.iconst 1, 1) := by decide +kernel
theorem d_X12_laysThick_130 : decode cX12_laysThick 130 = .ok (.isub, 1) := by decide +kernel
theorem d_X12_laysThick_131 : decode cX12_laysThick 131 = .ok (.istore 5, 2) := by decide +kernel
theorem d_X12_laysThick_133 : decode cX12_laysThick 133 = .ok (.aload_n 0, 1) := by decide +kernel
theorem d_X12_laysThick_134 : decode cX12_laysThick 134 = .ok (.getfield 149, 3) := by decide +kernel
theorem d_X12_laysThick_137 : decode cX12_laysThick 137 = .ok (.iconst 1, 1) := by decide +kernel
theorem d_X12_laysThick_138 : decode cX12_laysThick 138 = .ok (.iaload, 1) := by decide +kernel
theorem d_X12_laysThick_139 : decode cX12_laysThick 139 = .ok (.ifCond .ne 7, 3) := by decide +kernel
theorem d_X12_laysThick_142 : decode cX12_laysThick 142 = .ok (.iconst 1, 1) := by decide +kernel
theorem d_X12_laysThick_143 : decode cX12_laysThick 143 = .ok (.goto 22, 3) := by decide +kernel
theorem d_X12_laysThick_146 : decode cX12_laysThick 146 = .ok (.iload 4, 2) := by decide +kernel
theorem d_X12_laysThick_148 : decode cX12_laysThick 148 = .ok (.aload_n 0, 1) := by decide +kernel
theorem d_X12_laysThick_149 : decode cX12_laysThick 149 = .ok (.getfield 149, 3) := by decide +kernel
theorem d_X12_laysThick_152 : decode cX12_laysThick 152 = .ok (.iconst 1, 1) := by decide +kernel
theorem d_X12_laysThick_153 : decode cX12_laysThick 153 = .ok (.iaload, 1) := by decide +kernel
theorem d_X12_laysThick_154 : decode cX12_laysThick 154 = .ok (.imul, 1) := by decide +kernel
theorem d_X12_laysThick_155 : decode cX12_laysThick 155 = .ok (.aload_n 0, 1) := by decide +kernel
theorem d_X12_laysThick_156 : decode cX12_laysThick 156 = .ok (.getfield 149, 3) := by decide +kernel
theorem d_X12_laysThick_159 : decode cX12_laysThick 159 = .ok (.iconst 0, 1) := by decide +kernel
theorem d_X12_laysThick_160 : decode cX12_laysThick 160 = .ok (.iaload, 1) := by decide +kernel
theorem d_X12_laysThick_161 : decode cX12_laysThick 161 = .ok (.iload 5, 2) := by decide +kernel
theorem d_X12_laysThick_163 : decode cX12_laysThick 163 = .ok (.imul, 1) := by decide +kernel
theorem d_X12_laysThick_164 : decode cX12_laysThick 164 = .ok (.isub, 1) := by decide +kernel
theorem d_X12_laysThick_165 : decode cX12_laysThick 165 = .ok (.istore 6, 2) := by decide +kernel
theorem d_X12_laysThick_167 : decode cX12_laysThick 167 = .ok (.iload 6, 2) := by decide +kernel
theorem d_X12_laysThick_169 : decode cX12_laysThick 169 = .ok (.ifCond .lt 50, 3) := by decide +kernel
theorem d_X12_laysThick_172 : decode cX12_laysThick 172 = .ok (.iload 6, 2) := by decide +kernel
theorem d_X12_laysThick_174 : decode cX12_laysThick 174 = .ok (.ifCond .ne 22, 3) := by decide +kernel
theorem d_X12_laysThick_177 : decode cX12_laysThick 177 = .ok (.iload_n 3, 1) := by decide +kernel
theorem d_X12_laysThick_178 : decode cX12_laysThick 178 = .ok (.invokestatic 236, 3) := by decide +kernel
theorem d_X12_laysThick_181 : decode cX12_laysThick 181 = .ok (.aload_n 0, 1) := by decide +kernel
theorem d_X12_laysThick_182 : decode cX12_laysThick 182 = .ok (.getfield 149, 3) := by decide +kernel
theorem d_X12_laysThick_185 : decode cX12_laysThick 185 = .ok (.iconst 2, 1) := by decide +kernel
theorem d_X12_laysThick_186 : decode cX12_laysThick 186 = .ok (.iaload, 1) := by decide +kernel
theorem d_X12_laysThick_187 : decode cX12_laysThick 187 = .ok (.invokestatic 236, 3) := by decide +kernel
theorem d_X12_laysThick_190 : decode cX12_laysThick 190 = .ok (.if_icmp .lt 6, 3) := by decide +kernel
theorem d_X12_laysThick_193 : decode cX12_laysThick 193 = .ok (.goto 26, 3) := by decide +kernel
theorem d_X12_laysThick_196 : decode cX12_laysThick 196 = .ok (.aload_n 0, 1) := by decide +kernel
theorem d_X12_laysThick_197 : decode cX12_laysThick 197 = .ok (.getfield 149, 3) := by decide +kernel
theorem d_X12_laysThick_200 : decode cX12_laysThick 200 = .ok (.iconst 0, 1) := by decide +kernel
theorem d_X12_laysThick_201 : decode cX12_laysThick 201 = .ok (.iload 4, 2) := by decide +kernel
theorem d_X12_laysThick_203 : decode cX12_laysThick 203 = .ok (.iastore, 1) := by decide +kernel
theorem d_X12_laysThick_204 : decode cX12_laysThick 204 = .ok (.aload_n 0, 1) := by decide +kernel
theorem d_X12_laysThick_205 : decode cX12_laysThick 205 = .ok (.getfield 149, 3) := by decide +kernel
theorem d_X12_laysThick_208 : decode cX12_laysThick 208 = .ok (.iconst 1, 1) := by decide +kernel
theorem d_X12_laysThick_209 : decode cX12_laysThick 209 = .ok (.iload 5, 2) := by decide +kernel
theorem d_X12_laysThick_211 : decode cX12_laysThick 211 = .ok (.iastore, 1) := by decide +kernel
theorem d_X12_laysThick_212 : decode cX12_laysThick 212 = .ok (.aload_n 0, 1) := by decide +kernel
theorem d_X12_laysThick_213 : decode cX12_laysThick 213 = .ok (.getfield 149, 3) := by decide +kernel
theorem d_X12_laysThick_216 : decode cX12_laysThick 216 = .ok (.iconst 2, 1) := by decide +kernel
theorem d_X12_laysThick_217 : decode cX12_laysThick 217 = .ok (.iload_n 3, 1) := by decide +kernel
theorem d_X12_laysThick_218 : decode cX12_laysThick 218 = .ok (.iastore, 1) := by decide +kernel
theorem d_X12_laysThick_219 : decode cX12_laysThick 219 = .ok (.iinc 3 1, 3) := by decide +kernel
theorem d_X12_laysThick_222 : decode cX12_laysThick 222 = .ok (.goto (-199), 3) := by decide +kernel
theorem d_X12_laysThick_225 : decode cX12_laysThick 225 = .ok (.return_, 1) := by decide +kernel
theorem d_X12_divisor_0 : decode cX12_divisor 0 = .ok (.iload_n 1, 1) := by decide +kernel
theorem d_X12_divisor_1 : decode cX12_divisor 1 = .ok (.ifCond .ne 7, 3) := by decide +kernel
theorem d_X12_divisor_4 : decode cX12_divisor 4 = .ok (.iload_n 0, 1) := by decide +kernel
theorem d_X12_divisor_5 : decode cX12_divisor 5 = .ok (.goto 10, 3) := by decide +kernel
theorem d_X12_divisor_8 : decode cX12_divisor 8 = .ok (.iload_n 1, 1) := by decide +kernel
theorem d_X12_divisor_9 : decode cX12_divisor 9 = .ok (.iload_n 0, 1) := by decide +kernel
theorem d_X12_divisor_10 : decode cX12_divisor 10 = .ok (.iload_n 1, 1) := by decide +kernel
theorem d_X12_divisor_11 : decode cX12_divisor 11 = .ok (.irem, 1) := by decide +kernel
theorem d_X12_divisor_12 : decode cX12_divisor 12 = .ok (.invokestatic 7, 3) := by decide +kernel
theorem d_X12_divisor_15 : decode cX12_divisor 15 = .ok (.ireturn, 1) := by decide +kernel
theorem d_X12_part_0 : decode cX12_part 0 = .ok (.iload_n 0, 1) := by decide +kernel
theorem d_X12_part_1 : decode cX12_part 1 = .ok (.iload_n 1, 1) := by decide +kernel
theorem d_X12_part_2 : decode cX12_part 2 = .ok (.invokestatic 7, 3) := by decide +kernel
theorem d_X12_part_5 : decode cX12_part 5 = .ok (.istore_n 3, 1) := by decide +kernel
theorem d_X12_part_6 : decode cX12_part 6 = .ok (.iload_n 0, 1) := by decide +kernel
theorem d_X12_part_7 : decode cX12_part 7 = .ok (.ifCond .ne 7, 3) := by decide +kernel
theorem d_X12_part_10 : decode cX12_part 10 = .ok (.iload_n 2, 1) := by decide +kernel
theorem d_X12_part_11 : decode cX12_part 11 = .ok (.goto 14, 3) := by decide +kernel
theorem d_X12_part_14 : decode cX12_part 14 = .ok (.iload_n 2, 1) := by decide +kernel
theorem d_X12_part_15 : decode cX12_part 15 = .ok (.ifCond .ne 7, 3) := by decide +kernel
theorem d_X12_part_18 : decode cX12_part 18 = .ok (.iload_n 0, 1) := by decide +kernel
theorem d_X12_part_19 : decode cX12_part 19 = .ok (.goto 4, 3) := by decide +kernel
theorem d_X12_part_22 : decode cX12_part 22 = .ok (.iload_n 1, 1) := by decide +kernel
theorem d_X12_part_23 : decode cX12_part 23 = .ok (.iload_n 3, 1) := by decide +kernel
theorem d_X12_part_24 : decode cX12_part 24 = .ok (.idiv, 1) := by decide +kernel
theorem d_X12_part_25 : decode cX12_part 25 = .ok (.ireturn, 1) := by decide +kernel
theorem d_X12_thick_0 : decode cX12_thick 0 = .ok (.aload_n 0, 1) := by decide +kernel
theorem d_X12_thick_1 : decode cX12_thick 1 = .ok (.iconst 0, 1) := by decide +kernel
theorem d_X12_thick_2 : decode cX12_thick 2 = .ok (.putfield 1, 3) := by decide +kernel
theorem d_X12_thick_5 : decode cX12_thick 5 = .ok (.aload_n 0, 1) := by decide +kernel
theorem d_X12_thick_6 : decode cX12_thick 6 = .ok (.invokevirtual 191, 3) := by decide +kernel
theorem d_X12_thick_9 : decode cX12_thick 9 = .ok (.iconst 2, 1) := by decide +kernel
theorem d_X12_thick_10 : decode cX12_thick 10 = .ok (.if_icmp .lt 12, 3) := by decide +kernel
theorem d_X12_thick_13 : decode cX12_thick 13 = .ok (.iload_n 1, 1) := by decide +kernel
theorem d_X12_thick_14 : decode cX12_thick 14 = .ok (.iconst 0, 1) := by decide +kernel
theorem d_X12_thick_15 : decode cX12_thick 15 = .ok (.iconst 2, 1) := by decide +kernel
theorem d_X12_thick_16 : decode cX12_thick 16 = .ok (.invokestatic 83, 3) := by decide +kernel
theorem d_X12_thick_19 : decode cX12_thick 19 = .ok (.ifCond .ne 5, 3) := by decide +kernel
theorem d_X12_thick_22 : decode cX12_thick 22 = .ok (.iconst (-1), 1) := by decide +kernel
theorem d_X12_thick_23 : decode cX12_thick 23 = .ok (.ireturn, 1) := by decide +kernel
theorem d_X12_thick_24 : decode cX12_thick 24 = .ok (.aload_n 0, 1) := by decide +kernel
theorem d_X12_thick_25 : decode cX12_thick 25 = .ok (.invokevirtual 337, 3) := by decide +kernel
theorem d_X12_thick_28 : decode cX12_thick 28 = .ok (.aload_n 0, 1) := by decide +kernel
theorem d_X12_thick_29 : decode cX12_thick 29 = .ok (.iconst 1, 1) := by decide +kernel
theorem d_X12_thick_30 : decode cX12_thick 30 = .ok (.aload_n 0, 1) := by decide +kernel
theorem d_X12_thick_31 : decode cX12_thick 31 = .ok (.invokevirtual 191, 3) := by decide +kernel
theorem d_X12_thick_34 : decode cX12_thick 34 = .ok (.ishl, 1) := by decide +kernel
theorem d_X12_thick_35 : decode cX12_thick 35 = .ok (.iconst 1, 1) := by decide +kernel
theorem d_X12_thick_36 : decode cX12_thick 36 = .ok (.isub, 1) := by decide +kernel
theorem d_X12_thick_37 : decode cX12_thick 37 = .ok (.aload_n 0, 1) := by decide +kernel
theorem d_X12_thick_38 : decode cX12_thick 38 = .ok (.invokevirtual 233, 3) := by decide +kernel
theorem d_X12_thick_41 : decode cX12_thick 41 = .ok (.invokevirtual 340, 3) := by decide +kernel
theorem d_X12_thick_44 : decode cX12_thick 44 = .ok (.iload_n 1, 1) := by decide +kernel
theorem d_X12_thick_45 : decode cX12_thick 45 = .ok (.iconst 2, 1) := by decide +kernel
theorem d_X12_thick_46 : decode cX12_thick 46 = .ok (.if_icmp .ne 12, 3) := by decide +kernel
theorem d_X12_thick_49 : decode cX12_thick 49 = .ok (.aload_n 0, 1) := by decide +kernel
theorem d_X12_thick_50 : decode cX12_thick 50 = .ok (.getfield 149, 3) := by decide +kernel
theorem d_X12_thick_53 : decode cX12_thick 53 = .ok (.iconst 2, 1) := by decide +kernel
theorem d_X12_thick_54 : decode cX12_thick 54 = .ok (.iaload, 1) := by decide +kernel
theorem d_X12_thick_55 : decode cX12_thick 55 = .ok (.goto 19, 3) := by decide +kernel
theorem d_X12_thick_58 : decode cX12_thick 58 = .ok (.aload_n 0, 1) := by decide +kernel
theorem d_X12_thick_59 : decode cX12_thick 59 = .ok (.getfield 149, 3) := by decide +kernel
theorem d_X12_thick_62 : decode cX12_thick 62 = .ok (.iconst 0, 1) := by decide +kernel
theorem d_X12_thick_63 : decode cX12_thick 63 = .ok (.iaload, 1) := by decide +kernel
theorem d_X12_thick_64 : decode cX12_thick 64 = .ok (.aload_n 0, 1) := by decide +kernel
theorem d_X12_thick_65 : decode cX12_thick 65 = .ok (.getfield 149, 3) := by decide +kernel
theorem d_X12_thick_68 : decode cX12_thick 68 = .ok (.iconst 1, 1) := by decide +kernel
theorem d_X12_thick_69 : decode cX12_thick 69 = .ok (.iaload, 1) := by decide +kernel
theorem d_X12_thick_70 : decode cX12_thick 70 = .ok (.iload_n 1, 1) := by decide +kernel
theorem d_X12_thick_71 : decode cX12_thick 71 = .ok (.invokestatic 343, 3) := by decide +kernel
theorem d_X12_thick_74 : decode cX12_thick 74 = .ok (.ireturn, 1) := by decide +kernel
theorem d_X12_crowded_0 : decode cX12_crowded 0 = .ok (.aload_n 0, 1) := by decide +kernel
theorem d_X12_crowded_1 : decode cX12_crowded 1 = .ok (.iconst 0, 1) := by decide +kernel
theorem d_X12_crowded_2 : decode cX12_crowded 2 = .ok (.putfield 1, 3) := by decide +kernel
theorem d_X12_crowded_5 : decode cX12_crowded 5 = .ok (.iload_n 1, 1) := by decide +kernel
theorem d_X12_crowded_6 : decode cX12_crowded 6 = .ok (.invokestatic 328, 3) := by decide +kernel
theorem d_X12_crowded_9 : decode cX12_crowded 9 = .ok (.ifCond .ne 5, 3) := by decide +kernel
theorem d_X12_crowded_12 : decode cX12_crowded 12 = .ok (.iconst (-1), 1) := by decide +kernel
theorem d_X12_crowded_13 : decode cX12_crowded 13 = .ok (.ireturn, 1) := by decide +kernel
theorem d_X12_crowded_14 : decode cX12_crowded 14 = .ok (.iconst 0, 1) := by decide +kernel
theorem d_X12_crowded_15 : decode cX12_crowded 15 = .ok (.istore_n 2, 1) := by decide +kernel
theorem d_X12_crowded_16 : decode cX12_crowded 16 = .ok (.iconst 0, 1) := by decide +kernel
theorem d_X12_crowded_17 : decode cX12_crowded 17 = .ok (.istore_n 3, 1) := by decide +kernel
theorem d_X12_crowded_18 : decode cX12_crowded 18 = .ok (.iconst 1, 1) := by decide +kernel
theorem d_X12_crowded_19 : decode cX12_crowded 19 = .ok (.istore 4, 2) := by decide +kernel
theorem d_X12_crowded_21 : decode cX12_crowded 21 = .ok (.iload 4, 2) := by decide +kernel
theorem d_X12_crowded_23 : decode cX12_crowded 23 = .ok (.iconst 1, 1) := by decide +kernel
theorem d_X12_crowded_24 : decode cX12_crowded 24 = .ok (.aload_n 0, 1) := by decide +kernel
theorem d_X12_crowded_25 : decode cX12_crowded 25 = .ok (.invokevirtual 191, 3) := by decide +kernel
theorem d_X12_crowded_28 : decode cX12_crowded 28 = .ok (.ishl, 1) := by decide +kernel
theorem d_X12_crowded_29 : decode cX12_crowded 29 = .ok (.if_icmp .ge 80, 3) := by decide +kernel
theorem d_X12_crowded_32 : decode cX12_crowded 32 = .ok (.iload 4, 2) := by decide +kernel
theorem d_X12_crowded_34 : decode cX12_crowded 34 = .ok (.invokestatic 236, 3) := by decide +kernel
theorem d_X12_crowded_37 : decode cX12_crowded 37 = .ok (.iconst 2, 1) := by decide +kernel
theorem d_X12_crowded_38 : decode cX12_crowded 38 = .ok (.if_icmp .ge 6, 3) := by decide +kernel
theorem d_X12_crowded_41 : decode cX12_crowded 41 = .ok (.goto 62, 3) := by decide +kernel
theorem d_X12_crowded_44 : decode cX12_crowded 44 = .ok (.aload_n 0, 1) := by decide +kernel
theorem d_X12_crowded_45 : decode cX12_crowded 45 = .ok (.iload 4, 2) := by decide +kernel
theorem d_X12_crowded_47 : decode cX12_crowded 47 = .ok (.aload_n 0, 1) := by decide +kernel
theorem d_X12_crowded_48 : decode cX12_crowded 48 = .ok (.invokevirtual 233, 3) := by decide +kernel
theorem d_X12_crowded_51 : decode cX12_crowded 51 = .ok (.invokevirtual 322, 3) := by decide +kernel
theorem d_X12_crowded_54 : decode cX12_crowded 54 = .ok (.iload_n 1, 1) := by decide +kernel
theorem d_X12_crowded_55 : decode cX12_crowded 55 = .ok (.iload 4, 2) := by decide +kernel
theorem d_X12_crowded_57 : decode cX12_crowded 57 = .ok (.invokestatic 236, 3) := by decide +kernel
theorem d_X12_crowded_60 : decode cX12_crowded 60 = .ok (.iconst 1, 1) := by decide +kernel
theorem d_X12_crowded_61 : decode cX12_crowded 61 = .ok (.isub, 1) := by decide +kernel
theorem d_X12_crowded_62 : decode cX12_crowded 62 = .ok (.imul, 1) := by decide +kernel
theorem d_X12_crowded_63 : decode cX12_crowded 63 = .ok (.isub, 1) := by decide +kernel
theorem d_X12_crowded_64 : decode cX12_crowded 64 = .ok (.istore 5, 2) := by decide +kernel
theorem d_X12_crowded_66 : decode cX12_crowded 66 = .ok (.iload 5, 2) := by decide +kernel
theorem d_X12_crowded_68 : decode cX12_crowded 68 = .ok (.iload_n 3, 1) := by decide +kernel
theorem d_X12_crowded_69 : decode cX12_crowded 69 = .ok (.if_icmp .lt 34, 3) := by decide +kernel
theorem d_X12_crowded_72 : decode cX12_crowded 72 = .ok (.iload 5, 2) := by decide +kernel
theorem d_X12_crowded_74 : decode cX12_crowded 74 = .ok (.iload_n 3, 1) := by decide +kernel
theorem d_X12_crowded_75 : decode cX12_crowded 75 = .ok (.if_icmp .ne 22, 3) := by decide +kernel
theorem d_X12_crowded_78 : decode cX12_crowded 78 = .ok (.iload_n 2, 1) := by decide +kernel
theorem d_X12_crowded_79 : decode cX12_crowded 79 = .ok (.ifCond .eq 24, 3) := by decide +kernel
theorem d_X12_crowded_82 : decode cX12_crowded 82 = .ok (.iload 4, 2) := by decide +kernel
theorem d_X12_crowded_84 : decode cX12_crowded 84 = .ok (.invokestatic 236, 3) := by decide +kernel
theorem d_X12_crowded_87 : decode cX12_crowded 87 = .ok (.iload_n 2, 1) := by decide +kernel
theorem d_X12_crowded_88 : decode cX12_crowded 88 = .ok (.invokestatic 236, 3) := by decide +kernel
theorem d_X12_crowded_91 : decode cX12_crowded 91 = .ok (.if_icmp .lt 6, 3) := by decide +kernel
theorem d_X12_crowded_94 : decode cX12_crowded 94 = .ok (.goto 9, 3) := by decide +kernel
theorem d_X12_crowded_97 : decode cX12_crowded 97 = .ok (.iload 5, 2) := by decide +kernel
theorem d_X12_crowded_99 : decode cX12_crowded 99 = .ok (.istore_n 3, 1) := by decide +kernel
theorem d_X12_crowded_100 : decode cX12_crowded 100 = .ok (.iload 4, 2) := by decide +kernel
theorem d_X12_crowded_102 : decode cX12_crowded 102 = .ok (.istore_n 2, 1) := by decide +kernel
theorem d_X12_crowded_103 : decode cX12_crowded 103 = .ok (.iinc 4 1, 3) := by decide +kernel
theorem d_X12_crowded_106 : decode cX12_crowded 106 = .ok (.goto (-85), 3) := by decide +kernel
theorem d_X12_crowded_109 : decode cX12_crowded 109 = .ok (.iload_n 2, 1) := by decide +kernel
theorem d_X12_crowded_110 : decode cX12_crowded 110 = .ok (.ireturn, 1) := by decide +kernel
theorem d_X12_even_0 : decode cX12_even 0 = .ok (.aload_n 0, 1) := by decide +kernel
theorem d_X12_even_1 : decode cX12_even 1 = .ok (.iconst 0, 1) := by decide +kernel
theorem d_X12_even_2 : decode cX12_even 2 = .ok (.putfield 1, 3) := by decide +kernel
theorem d_X12_even_5 : decode cX12_even 5 = .ok (.iconst 0, 1) := by decide +kernel
theorem d_X12_even_6 : decode cX12_even 6 = .ok (.istore_n 1, 1) := by decide +kernel
theorem d_X12_even_7 : decode cX12_even 7 = .ok (.iconst 1, 1) := by decide +kernel
theorem d_X12_even_8 : decode cX12_even 8 = .ok (.istore_n 2, 1) := by decide +kernel
theorem d_X12_even_9 : decode cX12_even 9 = .ok (.iload_n 2, 1) := by decide +kernel
theorem d_X12_even_10 : decode cX12_even 10 = .ok (.iconst 1, 1) := by decide +kernel
theorem d_X12_even_11 : decode cX12_even 11 = .ok (.aload_n 0, 1) := by decide +kernel
theorem d_X12_even_12 : decode cX12_even 12 = .ok (.invokevirtual 191, 3) := by decide +kernel
theorem d_X12_even_15 : decode cX12_even 15 = .ok (.ishl, 1) := by decide +kernel
theorem d_X12_even_16 : decode cX12_even 16 = .ok (.if_icmp .ge 38, 3) := by decide +kernel
theorem d_X12_even_19 : decode cX12_even 19 = .ok (.aload_n 0, 1) := by decide +kernel
theorem d_X12_even_20 : decode cX12_even 20 = .ok (.iload_n 2, 1) := by decide +kernel
theorem d_X12_even_21 : decode cX12_even 21 = .ok (.aload_n 0, 1) := by decide +kernel
theorem d_X12_even_22 : decode cX12_even 22 = .ok (.invokevirtual 233, 3) := by decide +kernel
theorem d_X12_even_25 : decode cX12_even 25 = .ok (.invokevirtual 322, 3) := by decide +kernel
theorem d_X12_even_28 : decode cX12_even 28 = .ok (.iload_n 2, 1) := by decide +kernel
theorem d_X12_even_29 : decode cX12_even 29 = .ok (.invokestatic 236, 3) := by decide +kernel
theorem d_X12_even_32 : decode cX12_even 32 = .ok (.iadd, 1) := by decide +kernel
theorem d_X12_even_33 : decode cX12_even 33 = .ok (.iconst 1, 1) := by decide +kernel
theorem d_X12_even_34 : decode cX12_even 34 = .ok (.isub, 1) := by decide +kernel
theorem d_X12_even_35 : decode cX12_even 35 = .ok (.iload_n 2, 1) := by decide +kernel
theorem d_X12_even_36 : decode cX12_even 36 = .ok (.invokestatic 236, 3) := by decide +kernel
theorem d_X12_even_39 : decode cX12_even 39 = .ok (.idiv, 1) := by decide +kernel
theorem d_X12_even_40 : decode cX12_even 40 = .ok (.istore_n 3, 1) := by decide +kernel
theorem d_X12_even_41 : decode cX12_even 41 = .ok (.iload_n 3, 1) := by decide +kernel
theorem d_X12_even_42 : decode cX12_even 42 = .ok (.iload_n 1, 1) := by decide +kernel
theorem d_X12_even_43 : decode cX12_even 43 = .ok (.if_icmp .le 5, 3) := by decide +kernel
theorem d_X12_even_46 : decode cX12_even 46 = .ok (.iload_n 3, 1) := by decide +kernel
theorem d_X12_even_47 : decode cX12_even 47 = .ok (.istore_n 1, 1) := by decide +kernel
theorem d_X12_even_48 : decode cX12_even 48 = .ok (.iinc 2 1, 3) := by decide +kernel
theorem d_X12_even_51 : decode cX12_even 51 = .ok (.goto (-42), 3) := by decide +kernel
theorem d_X12_even_54 : decode cX12_even 54 = .ok (.iload_n 1, 1) := by decide +kernel
theorem d_X12_even_55 : decode cX12_even 55 = .ok (.ireturn, 1) := by decide +kernel
theorem d_X12_vital_0 : decode cX12_vital 0 = .ok (.aload_n 0, 1) := by decide +kernel
theorem d_X12_vital_1 : decode cX12_vital 1 = .ok (.iconst 0, 1) := by decide +kernel
theorem d_X12_vital_2 : decode cX12_vital 2 = .ok (.putfield 1, 3) := by decide +kernel
theorem d_X12_vital_5 : decode cX12_vital 5 = .ok (.aload_n 0, 1) := by decide +kernel
theorem d_X12_vital_6 : decode cX12_vital 6 = .ok (.invokevirtual 233, 3) := by decide +kernel
theorem d_X12_vital_9 : decode cX12_vital 9 = .ok (.istore_n 1, 1) := by decide +kernel
theorem d_X12_vital_10 : decode cX12_vital 10 = .ok (.aload_n 0, 1) := by decide +kernel
theorem d_X12_vital_11 : decode cX12_vital 11 = .ok (.iload_n 1, 1) := by decide +kernel
theorem d_X12_vital_12 : decode cX12_vital 12 = .ok (.aload_n 0, 1) := by decide +kernel
theorem d_X12_vital_13 : decode cX12_vital 13 = .ok (.invokevirtual 197, 3) := by decide +kernel
theorem d_X12_vital_16 : decode cX12_vital 16 = .ok (.invokevirtual 331, 3) := by decide +kernel
theorem d_X12_vital_19 : decode cX12_vital 19 = .ok (.invokestatic 236, 3) := by decide +kernel
theorem d_X12_vital_22 : decode cX12_vital 22 = .ok (.istore_n 2, 1) := by decide +kernel
theorem d_X12_vital_23 : decode cX12_vital 23 = .ok (.iconst 0, 1) := by decide +kernel
theorem d_X12_vital_24 : decode cX12_vital 24 = .ok (.istore_n 3, 1) := by decide +kernel
theorem d_X12_vital_25 : decode cX12_vital 25 = .ok (.iconst 0, 1) := by decide +kernel
theorem d_X12_vital_26 : decode cX12_vital 26 = .ok (.istore 4, 2) := by decide +kernel
theorem d_X12_vital_28 : decode cX12_vital 28 = .ok (.iload 4, 2) := by decide +kernel
theorem d_X12_vital_30 : decode cX12_vital 30 = .ok (.aload_n 0, 1) := by decide +kernel
theorem d_X12_vital_31 : decode cX12_vital 31 = .ok (.invokevirtual 194, 3) := by decide +kernel
theorem d_X12_vital_34 : decode cX12_vital 34 = .ok (.if_icmp .ge 48, 3) := by decide +kernel
theorem d_X12_vital_37 : decode cX12_vital 37 = .ok (.iload_n 1, 1) := by decide +kernel
theorem d_X12_vital_38 : decode cX12_vital 38 = .ok (.iload 4, 2) := by decide +kernel
theorem d_X12_vital_40 : decode cX12_vital 40 = .ok (.invokestatic 206, 3) := by decide +kernel
theorem d_X12_vital_43 : decode cX12_vital 43 = .ok (.ifCond .eq 33, 3) := by decide +kernel
theorem d_X12_vital_46 : decode cX12_vital 46 = .ok (.aload_n 0, 1) := by decide +kernel
theorem d_X12_vital_47 : decode cX12_vital 47 = .ok (.iload_n 1, 1) := by decide +kernel
theorem d_X12_vital_48 : decode cX12_vital 48 = .ok (.iconst 1, 1) := by decide +kernel
theorem d_X12_vital_49 : decode cX12_vital 49 = .ok (.iload 4, 2) := by decide +kernel
theorem d_X12_vital_51 : decode cX12_vital 51 = .ok (.ishl, 1) := by decide +kernel
theorem d_X12_vital_52 : decode cX12_vital 52 = .ok (.iconst (-1), 1) := by decide +kernel
theorem d_X12_vital_53 : decode cX12_vital 53 = .ok (.ixor, 1) := by decide +kernel
theorem d_X12_vital_54 : decode cX12_vital 54 = .ok (.iand, 1) := by decide +kernel
theorem d_X12_vital_55 : decode cX12_vital 55 = .ok (.aload_n 0, 1) := by decide +kernel
theorem d_X12_vital_56 : decode cX12_vital 56 = .ok (.invokevirtual 197, 3) := by decide +kernel
theorem d_X12_vital_59 : decode cX12_vital 59 = .ok (.invokevirtual 331, 3) := by decide +kernel
theorem d_X12_vital_62 : decode cX12_vital 62 = .ok (.invokestatic 236, 3) := by decide +kernel
theorem d_X12_vital_65 : decode cX12_vital 65 = .ok (.iload_n 2, 1) := by decide +kernel
theorem d_X12_vital_66 : decode cX12_vital 66 = .ok (.if_icmp .ge 10, 3) := by decide +kernel
theorem d_X12_vital_69 : decode cX12_vital 69 = .ok (.iload_n 3, 1) := by decide +kernel
theorem d_X12_vital_70 : decode cX12_vital 70 = .ok (.iconst 1, 1) := by decide +kernel
theorem d_X12_vital_71 : decode cX12_vital 71 = .ok (.iload 4, 2) := by decide +kernel
theorem d_X12_vital_73 : decode cX12_vital 73 = .ok (.ishl, 1) := by decide +kernel
theorem d_X12_vital_74 : decode cX12_vital 74 = .ok (.ior, 1) := by decide +kernel
theorem d_X12_vital_75 : decode cX12_vital 75 = .ok (.istore_n 3, 1) := by decide +kernel
theorem d_X12_vital_76 : decode cX12_vital 76 = .ok (.iinc 4 1, 3) := by decide +kernel
theorem d_X12_vital_79 : decode cX12_vital 79 = .ok (.goto (-51), 3) := by decide +kernel
theorem d_X12_vital_82 : decode cX12_vital 82 = .ok (.iload_n 3, 1) := by decide +kernel
theorem d_X12_vital_83 : decode cX12_vital 83 = .ok (.ireturn, 1) := by decide +kernel
theorem d_X12_isLatest_0 : decode cX12_isLatest 0 = .ok (.aload_n 0, 1) := by decide +kernel
theorem d_X12_isLatest_1 : decode cX12_isLatest 1 = .ok (.iload_n 1, 1) := by decide +kernel
theorem d_X12_isLatest_2 : decode cX12_isLatest 2 = .ok (.invokevirtual 209, 3) := by decide +kernel
theorem d_X12_isLatest_5 : decode cX12_isLatest 5 = .ok (.iload_n 2, 1) := by decide +kernel
theorem d_X12_isLatest_6 : decode cX12_isLatest 6 = .ok (.invokestatic 206, 3) := by decide +kernel
theorem d_X12_isLatest_9 : decode cX12_isLatest 9 = .ok (.ifCond .eq 18, 3) := by decide +kernel
theorem d_X12_isLatest_12 : decode cX12_isLatest 12 = .ok (.aload_n 0, 1) := by decide +kernel
theorem d_X12_isLatest_13 : decode cX12_isLatest 13 = .ok (.iload_n 1, 1) := by decide +kernel
theorem d_X12_isLatest_14 : decode cX12_isLatest 14 = .ok (.invokevirtual 209, 3) := by decide +kernel
theorem d_X12_isLatest_17 : decode cX12_isLatest 17 = .ok (.iconst 2, 1) := by decide +kernel
theorem d_X12_isLatest_18 : decode cX12_isLatest 18 = .ok (.iload_n 2, 1) := by decide +kernel
theorem d_X12_isLatest_19 : decode cX12_isLatest 19 = .ok (.ishl, 1) := by decide +kernel
theorem d_X12_isLatest_20 : decode cX12_isLatest 20 = .ok (.if_icmp .ge 7, 3) := by decide +kernel
theorem d_X12_isLatest_23 : decode cX12_isLatest 23 = .ok (.iconst 1, 1) := by decide +kernel
theorem d_X12_isLatest_24 : decode cX12_isLatest 24 = .ok (.goto 4, 3) := by decide +kernel
theorem d_X12_isLatest_27 : decode cX12_isLatest 27 = .ok (.iconst 0, 1) := by decide +kernel
theorem d_X12_isLatest_28 : decode cX12_isLatest 28 = .ok (.ireturn, 1) := by decide +kernel
theorem d_X12_parts_0 : decode cX12_parts 0 = .ok (.iload_n 1, 1) := by decide +kernel
theorem d_X12_parts_1 : decode cX12_parts 1 = .ok (.aload_n 0, 1) := by decide +kernel
theorem d_X12_parts_2 : decode cX12_parts 2 = .ok (.invokevirtual 191, 3) := by decide +kernel
theorem d_X12_parts_5 : decode cX12_parts 5 = .ok (.if_icmp .ne 69, 3) := by decide +kernel
theorem d_X12_parts_8 : decode cX12_parts 8 = .ok (.iload_n 2, 1) := by decide +kernel
theorem d_X12_parts_9 : decode cX12_parts 9 = .ok (.iconst 2, 1) := by decide +kernel
theorem d_X12_parts_10 : decode cX12_parts 10 = .ok (.if_icmp .ge 4, 3) := by decide +kernel
theorem d_X12_parts_13 : decode cX12_parts 13 = .ok (.return_, 1) := by decide +kernel
theorem d_X12_parts_14 : decode cX12_parts 14 = .ok (.aload_n 0, 1) := by decide +kernel
theorem d_X12_parts_15 : decode cX12_parts 15 = .ok (.getfield 347, 3) := by decide +kernel
theorem d_X12_parts_18 : decode cX12_parts 18 = .ok (.ifCond .ne 7, 3) := by decide +kernel
theorem d_X12_parts_21 : decode cX12_parts 21 = .ok (.iconst (-1), 1) := by decide +kernel
theorem d_X12_parts_22 : decode cX12_parts 22 = .ok (.goto 20, 3) := by decide +kernel
theorem d_X12_parts_25 : decode cX12_parts 25 = .ok (.iload_n 3, 1) := by decide +kernel
theorem d_X12_parts_26 : decode cX12_parts 26 = .ok (.aload_n 0, 1) := by decide +kernel
theorem d_X12_parts_27 : decode cX12_parts 27 = .ok (.getfield 347, 3) := by decide +kernel
theorem d_X12_parts_30 : decode cX12_parts 30 = .ok (.iconst 1, 1) := by decide +kernel
theorem d_X12_parts_31 : decode cX12_parts 31 = .ok (.isub, 1) := by decide +kernel
theorem d_X12_parts_32 : decode cX12_parts 32 = .ok (.imul, 1) := by decide +kernel
theorem d_X12_parts_33 : decode cX12_parts 33 = .ok (.aload_n 0, 1) := by decide +kernel
theorem d_X12_parts_34 : decode cX12_parts 34 = .ok (.getfield 350, 3) := by decide +kernel
theorem d_X12_parts_37 : decode cX12_parts 37 = .ok (.iload_n 2, 1) := by decide +kernel
theorem d_X12_parts_38 : decode cX12_parts 38 = .ok (.iconst 1, 1) := by decide +kernel
theorem d_X12_parts_39 : decode cX12_parts 39 = .ok (.isub, 1) := by decide +kernel
theorem d_X12_parts_40 : decode cX12_parts 40 = .ok (.imul, 1) := by decide +kernel
theorem d_X12_parts_41 : decode cX12_parts 41 = .ok (.isub, 1) := by decide +kernel
theorem d_X12_parts_42 : decode cX12_parts 42 = .ok (.istore 4, 2) := by decide +kernel
theorem d_X12_parts_44 : decode cX12_parts 44 = .ok (.iload 4, 2) := by decide +kernel
theorem d_X12_parts_46 : decode cX12_parts 46 = .ok (.ifCond .gt 16, 3) := by decide +kernel
theorem d_X12_parts_49 : decode cX12_parts 49 = .ok (.iload 4, 2) := by decide +kernel
theorem d_X12_parts_51 : decode cX12_parts 51 = .ok (.ifCond .ne 12, 3) := by decide +kernel
theorem d_X12_parts_54 : decode cX12_parts 54 = .ok (.iload_n 2, 1) := by decide +kernel
theorem d_X12_parts_55 : decode cX12_parts 55 = .ok (.aload_n 0, 1) := by decide +kernel
theorem d_X12_parts_56 : decode cX12_parts 56 = .ok (.getfield 347, 3) := by decide +kernel
theorem d_X12_parts_59 : decode cX12_parts 59 = .ok (.if_icmp .lt 4, 3) := by decide +kernel
theorem d_X12_parts_62 : decode cX12_parts 62 = .ok (.return_, 1) := by decide +kernel
theorem d_X12_parts_63 : decode cX12_parts 63 = .ok (.aload_n 0, 1) := by decide +kernel
theorem d_X12_parts_64 : decode cX12_parts 64 = .ok (.iload_n 3, 1) := by decide +kernel
theorem d_X12_parts_65 : decode cX12_parts 65 = .ok (.putfield 350, 3) := by decide +kernel
theorem d_X12_parts_68 : decode cX12_parts 68 = .ok (.aload_n 0, 1) := by decide +kernel
theorem d_X12_parts_69 : decode cX12_parts 69 = .ok (.iload_n 2, 1) := by decide +kernel
theorem d_X12_parts_70 : decode cX12_parts 70 = .ok (.putfield 347, 3) := by decide +kernel
theorem d_X12_parts_73 : decode cX12_parts 73 = .ok (.return_, 1) := by decide +kernel
theorem d_X12_parts_74 : decode cX12_parts 74 = .ok (.iconst 0, 1) := by decide +kernel
theorem d_X12_parts_75 : decode cX12_parts 75 = .ok (.istore 4, 2) := by decide +kernel
theorem d_X12_parts_77 : decode cX12_parts 77 = .ok (.iload 4, 2) := by decide +kernel
theorem d_X12_parts_79 : decode cX12_parts 79 = .ok (.iload_n 2, 1) := by decide +kernel
theorem d_X12_parts_80 : decode cX12_parts 80 = .ok (.if_icmp .gt 116, 3) := by decide +kernel
theorem d_X12_parts_83 : decode cX12_parts 83 = .ok (.aload_n 0, 1) := by decide +kernel
theorem d_X12_parts_84 : decode cX12_parts 84 = .ok (.getfield 155, 3) := by decide +kernel
theorem d_X12_parts_87 : decode cX12_parts 87 = .ok (.iload_n 1, 1) := by decide +kernel
theorem d_X12_parts_88 : decode cX12_parts 88 = .ok (.iload 4, 2) := by decide +kernel
theorem d_X12_parts_90 : decode cX12_parts 90 = .ok (.iastore, 1) := by decide +kernel
theorem d_X12_parts_91 : decode cX12_parts 91 = .ok (.iconst 0, 1) := by decide +kernel
theorem d_X12_parts_92 : decode cX12_parts 92 = .ok (.istore 5, 2) := by decide +kernel
theorem d_X12_parts_94 : decode cX12_parts 94 = .ok (.iconst 0, 1) := by decide +kernel
theorem d_X12_parts_95 : decode cX12_parts 95 = .ok (.istore 6, 2) := by decide +kernel
theorem d_X12_parts_97 : decode cX12_parts 97 = .ok (.iload 6, 2) := by decide +kernel
theorem d_X12_parts_99 : decode cX12_parts 99 = .ok (.aload_n 0, 1) := by decide +kernel
theorem d_X12_parts_100 : decode cX12_parts 100 = .ok (.invokevirtual 194, 3) := by decide +kernel
theorem d_X12_parts_103 : decode cX12_parts 103 = .ok (.if_icmp .ge 63, 3) := by decide +kernel
theorem d_X12_parts_106 : decode cX12_parts 106 = .ok (.aload_n 0, 1) := by decide +kernel
theorem d_X12_parts_107 : decode cX12_parts 107 = .ok (.iload 6, 2) := by decide +kernel
theorem d_X12_parts_109 : decode cX12_parts 109 = .ok (.invokevirtual 200, 3) := by decide +kernel
theorem d_X12_parts_112 : decode cX12_parts 112 = .ok (.ifCond .ne 48, 3) := by decide +kernel
theorem d_X12_parts_115 : decode cX12_parts 115 = .ok (.aload_n 0, 1) := by decide +kernel
theorem d_X12_parts_116 : decode cX12_parts 116 = .ok (.iload 6, 2) := by decide +kernel
theorem d_X12_parts_118 : decode cX12_parts 118 = .ok (.iload_n 1, 1) := by decide +kernel
theorem d_X12_parts_119 : decode cX12_parts 119 = .ok (.invokevirtual 353, 3) := by decide +kernel
theorem d_X12_parts_122 : decode cX12_parts 122 = .ok (.ifCond .eq 38, 3) := by decide +kernel
theorem d_X12_parts_125 : decode cX12_parts 125 = .ok (.aload_n 0, 1) := by decide +kernel
theorem d_X12_parts_126 : decode cX12_parts 126 = .ok (.getfield 155, 3) := by decide +kernel
theorem d_X12_parts_129 : decode cX12_parts 129 = .ok (.aload_n 0, 1) := by decide +kernel
theorem d_X12_parts_130 : decode cX12_parts 130 = .ok (.getfield 99, 3) := by decide +kernel
theorem d_X12_parts_133 : decode cX12_parts 133 = .ok (.iconst 3, 1) := by decide +kernel
theorem d_X12_parts_134 : decode cX12_parts 134 = .ok (.iload 6, 2) := by decide +kernel
theorem d_X12_parts_136 : decode cX12_parts 136 = .ok (.iadd, 1) := by decide +kernel
theorem d_X12_parts_137 : decode cX12_parts 137 = .ok (.iaload, 1) := by decide +kernel
theorem d_X12_parts_138 : decode cX12_parts 138 = .ok (.iaload, 1) := by decide +kernel
theorem d_X12_parts_139 : decode cX12_parts 139 = .ok (.aload_n 0, 1) := by decide +kernel
theorem d_X12_parts_140 : decode cX12_parts 140 = .ok (.getfield 155, 3) := by decide +kernel
theorem d_X12_parts_143 : decode cX12_parts 143 = .ok (.aload_n 0, 1) := by decide +kernel
theorem d_X12_parts_144 : decode cX12_parts 144 = .ok (.getfield 99, 3) := by decide +kernel
theorem d_X12_parts_147 : decode cX12_parts 147 = .ok (.bipush 27, 2) := by decide +kernel
theorem d_X12_parts_149 : decode cX12_parts 149 = .ok (.iload 6, 2) := by decide +kernel
theorem d_X12_parts_151 : decode cX12_parts 151 = .ok (.iadd, 1) := by decide +kernel
theorem d_X12_parts_152 : decode cX12_parts 152 = .ok (.iaload, 1) := by decide +kernel
theorem d_X12_parts_153 : decode cX12_parts 153 = .ok (.iaload, 1) := by decide +kernel
theorem d_X12_parts_154 : decode cX12_parts 154 = .ok (.if_icmp .eq 6, 3) := by decide +kernel
theorem d_X12_parts_157 : decode cX12_parts 157 = .ok (.iinc 5 1, 3) := by decide +kernel
theorem d_X12_parts_160 : decode cX12_parts 160 = .ok (.iinc 6 1, 3) := by decide +kernel
theorem d_X12_parts_163 : decode cX12_parts 163 = .ok (.goto (-66), 3) := by decide +kernel
theorem d_X12_parts_166 : decode cX12_parts 166 = .ok (.aload_n 0, 1) := by decide +kernel
theorem d_X12_parts_167 : decode cX12_parts 167 = .ok (.iload_n 1, 1) := by decide +kernel
theorem d_X12_parts_168 : decode cX12_parts 168 = .ok (.iconst 1, 1) := by decide +kernel
theorem d_X12_parts_169 : decode cX12_parts 169 = .ok (.iadd, 1) := by decide +kernel
theorem d_X12_parts_170 : decode cX12_parts 170 = .ok (.iload 4, 2) := by decide +kernel
theorem d_X12_parts_172 : decode cX12_parts 172 = .ok (.iload_n 2, 1) := by decide +kernel
theorem d_X12_parts_173 : decode cX12_parts 173 = .ok (.if_icmp .ne 9, 3) := by decide +kernel
theorem d_X12_parts_176 : decode cX12_parts 176 = .ok (.iload_n 2, 1) := by decide +kernel
theorem d_X12_parts_177 : decode cX12_parts 177 = .ok (.iconst 1, 1) := by decide +kernel
theorem d_X12_parts_178 : decode cX12_parts 178 = .ok (.iadd, 1) := by decide +kernel
theorem d_X12_parts_179 : decode cX12_parts 179 = .ok (.goto 4, 3) := by decide +kernel
theorem d_X12_parts_182 : decode cX12_parts 182 = .ok (.iload_n 2, 1) := by decide +kernel
theorem d_X12_parts_183 : decode cX12_parts 183 = .ok (.iload_n 3, 1) := by decide +kernel
theorem d_X12_parts_184 : decode cX12_parts 184 = .ok (.iload 5, 2) := by decide +kernel
theorem d_X12_parts_186 : decode cX12_parts 186 = .ok (.iadd, 1) := by decide +kernel
theorem d_X12_parts_187 : decode cX12_parts 187 = .ok (.invokevirtual 356, 3) := by decide +kernel
theorem d_X12_parts_190 : decode cX12_parts 190 = .ok (.iinc 4 1, 3) := by decide +kernel
theorem d_X12_parts_193 : decode cX12_parts 193 = .ok (.goto (-116), 3) := by decide +kernel
theorem d_X12_parts_196 : decode cX12_parts 196 = .ok (.return_, 1) := by decide +kernel
theorem d_X12_strength_0 : decode cX12_strength 0 = .ok (.aload_n 0, 1) := by decide +kernel
theorem d_X12_strength_1 : decode cX12_strength 1 = .ok (.iconst 0, 1) := by decide +kernel
theorem d_X12_strength_2 : decode cX12_strength 2 = .ok (.putfield 1, 3) := by decide +kernel
theorem d_X12_strength_5 : decode cX12_strength 5 = .ok (.aload_n 0, 1) := by decide +kernel
theorem d_X12_strength_6 : decode cX12_strength 6 = .ok (.invokevirtual 191, 3) := by decide +kernel
theorem d_X12_strength_9 : decode cX12_strength 9 = .ok (.iconst 2, 1) := by decide +kernel
theorem d_X12_strength_10 : decode cX12_strength 10 = .ok (.if_icmp .lt 12, 3) := by decide +kernel
theorem d_X12_strength_13 : decode cX12_strength 13 = .ok (.iload_n 1, 1) := by decide +kernel
theorem d_X12_strength_14 : decode cX12_strength 14 = .ok (.iconst 0, 1) := by decide +kernel
theorem d_X12_strength_15 : decode cX12_strength 15 = .ok (.iconst 2, 1) := by decide +kernel
theorem d_X12_strength_16 : decode cX12_strength 16 = .ok (.invokestatic 83, 3) := by decide +kernel
theorem d_X12_strength_19 : decode cX12_strength 19 = .ok (.ifCond .ne 5, 3) := by decide +kernel
theorem d_X12_strength_22 : decode cX12_strength 22 = .ok (.iconst (-1), 1) := by decide +kernel
theorem d_X12_strength_23 : decode cX12_strength 23 = .ok (.ireturn, 1) := by decide +kernel
theorem d_X12_strength_24 : decode cX12_strength 24 = .ok (.aload_n 0, 1) := by decide +kernel
theorem d_X12_strength_25 : decode cX12_strength 25 = .ok (.iconst 0, 1) := by decide +kernel
theorem d_X12_strength_26 : decode cX12_strength 26 = .ok (.putfield 347, 3) := by decide +kernel
theorem d_X12_strength_29 : decode cX12_strength 29 = .ok (.aload_n 0, 1) := by decide +kernel
theorem d_X12_strength_30 : decode cX12_strength 30 = .ok (.iconst 0, 1) := by decide +kernel
theorem d_X12_strength_31 : decode cX12_strength 31 = .ok (.putfield 350, 3) := by decide +kernel
theorem d_X12_strength_34 : decode cX12_strength 34 = .ok (.aload_n 0, 1) := by decide +kernel
theorem d_X12_strength_35 : decode cX12_strength 35 = .ok (.iconst 0, 1) := by decide +kernel
theorem d_X12_strength_36 : decode cX12_strength 36 = .ok (.iconst 0, 1) := by decide +kernel
theorem d_X12_strength_37 : decode cX12_strength 37 = .ok (.iconst 0, 1) := by decide +kernel
theorem d_X12_strength_38 : decode cX12_strength 38 = .ok (.invokevirtual 356, 3) := by decide +kernel
theorem d_X12_strength_41 : decode cX12_strength 41 = .ok (.iload_n 1, 1) := by decide +kernel
theorem d_X12_strength_42 : decode cX12_strength 42 = .ok (.iconst 2, 1) := by decide +kernel
theorem d_X12_strength_43 : decode cX12_strength 43 = .ok (.if_icmp .ne 10, 3) := by decide +kernel
theorem d_X12_strength_46 : decode cX12_strength 46 = .ok (.aload_n 0, 1) := by decide +kernel
theorem d_X12_strength_47 : decode cX12_strength 47 = .ok (.getfield 347, 3) := by decide +kernel
theorem d_X12_strength_50 : decode cX12_strength 50 = .ok (.goto 17, 3) := by decide +kernel
theorem d_X12_strength_53 : decode cX12_strength 53 = .ok (.aload_n 0, 1) := by decide +kernel
theorem d_X12_strength_54 : decode cX12_strength 54 = .ok (.getfield 350, 3) := by decide +kernel
theorem d_X12_strength_57 : decode cX12_strength 57 = .ok (.aload_n 0, 1) := by decide +kernel
theorem d_X12_strength_58 : decode cX12_strength 58 = .ok (.getfield 347, 3) := by decide +kernel
theorem d_X12_strength_61 : decode cX12_strength 61 = .ok (.iconst 1, 1) := by decide +kernel
theorem d_X12_strength_62 : decode cX12_strength 62 = .ok (.isub, 1) := by decide +kernel
theorem d_X12_strength_63 : decode cX12_strength 63 = .ok (.iload_n 1, 1) := by decide +kernel
theorem d_X12_strength_64 : decode cX12_strength 64 = .ok (.invokestatic 343, 3) := by decide +kernel
theorem d_X12_strength_67 : decode cX12_strength 67 = .ok (.ireturn, 1) := by decide +kernel
theorem d_X12_rootedBy_0 : decode cX12_rootedBy 0 = .ok (.sipush 1000, 3) := by decide +kernel
theorem d_X12_rootedBy_3 : decode cX12_rootedBy 3 = .ok (.istore_n 3, 1) := by decide +kernel
theorem d_X12_rootedBy_4 : decode cX12_rootedBy 4 = .ok (.iconst 1, 1) := by decide +kernel
theorem d_X12_rootedBy_5 : decode cX12_rootedBy 5 = .ok (.istore 4, 2) := by decide +kernel
theorem d_X12_rootedBy_7 : decode cX12_rootedBy 7 = .ok (.iload 4, 2) := by decide +kernel
theorem d_X12_rootedBy_9 : decode cX12_rootedBy 9 = .ok (.iconst 1, 1) := by decide +kernel
theorem d_X12_rootedBy_10 : decode cX12_rootedBy 10 = .ok (.aload_n 0, 1) := by decide +kernel
theorem d_X12_rootedBy_11 : decode cX12_rootedBy 11 = .ok (.invokevirtual 191, 3) := by decide +kernel
theorem d_X12_rootedBy_14 : decode cX12_rootedBy 14 = .ok (.ishl, 1) := by decide +kernel
theorem d_X12_rootedBy_15 : decode cX12_rootedBy 15 = .ok (.if_icmp .ge 91, 3) := by decide +kernel
theorem d_X12_rootedBy_18 : decode cX12_rootedBy 18 = .ok (.iload 4, 2) := by decide +kernel
theorem d_X12_rootedBy_20 : decode cX12_rootedBy 20 = .ok (.iload_n 1, 1) := by decide +kernel
theorem d_X12_rootedBy_21 : decode cX12_rootedBy 21 = .ok (.invokestatic 206, 3) := by decide +kernel
theorem d_X12_rootedBy_24 : decode cX12_rootedBy 24 = .ok (.ifCond .eq 6, 3) := by decide +kernel
theorem d_X12_rootedBy_27 : decode cX12_rootedBy 27 = .ok (.goto 73, 3) := by decide +kernel
theorem d_X12_rootedBy_30 : decode cX12_rootedBy 30 = .ok (.iconst 0, 1) := by decide +kernel
theorem d_X12_rootedBy_31 : decode cX12_rootedBy 31 = .ok (.istore 5, 2) := by decide +kernel
theorem d_X12_rootedBy_33 : decode cX12_rootedBy 33 = .ok (.iconst 0, 1) := by decide +kernel
theorem d_X12_rootedBy_34 : decode cX12_rootedBy 34 = .ok (.istore 6, 2) := by decide +kernel
theorem d_X12_rootedBy_36 : decode cX12_rootedBy 36 = .ok (.iload 6, 2) := by decide +kernel
theorem d_X12_rootedBy_38 : decode cX12_rootedBy 38 = .ok (.aload_n 0, 1) := by decide +kernel
theorem d_X12_rootedBy_39 : decode cX12_rootedBy 39 = .ok (.invokevirtual 194, 3) := by decide +kernel
theorem d_X12_rootedBy_42 : decode cX12_rootedBy 42 = .ok (.if_icmp .ge 49, 3) := by decide +kernel
theorem d_X12_rootedBy_45 : decode cX12_rootedBy 45 = .ok (.iload_n 2, 1) := by decide +kernel
theorem d_X12_rootedBy_46 : decode cX12_rootedBy 46 = .ok (.iload 6, 2) := by decide +kernel
theorem d_X12_rootedBy_48 : decode cX12_rootedBy 48 = .ok (.invokestatic 206, 3) := by decide +kernel
theorem d_X12_rootedBy_51 : decode cX12_rootedBy 51 = .ok (.ifCond .eq 34, 3) := by decide +kernel
theorem d_X12_rootedBy_54 : decode cX12_rootedBy 54 = .ok (.iload 4, 2) := by decide +kernel
theorem d_X12_rootedBy_56 : decode cX12_rootedBy 56 = .ok (.aload_n 0, 1) := by decide +kernel
theorem d_X12_rootedBy_57 : decode cX12_rootedBy 57 = .ok (.iload 6, 2) := by decide +kernel
theorem d_X12_rootedBy_59 : decode cX12_rootedBy 59 = .ok (.invokevirtual 301, 3) := by decide +kernel
theorem d_X12_rootedBy_62 : decode cX12_rootedBy 62 = .ok (.invokestatic 206, 3) := by decide +kernel
theorem d_X12_rootedBy_65 : decode cX12_rootedBy 65 = .ok (.ifCond .ne 20, 3) := by decide +kernel
theorem d_X12_rootedBy_68 : decode cX12_rootedBy 68 = .ok (.iload 4, 2) := by decide +kernel
theorem d_X12_rootedBy_70 : decode cX12_rootedBy 70 = .ok (.aload_n 0, 1) := by decide +kernel
theorem d_X12_rootedBy_71 : decode cX12_rootedBy 71 = .ok (.iload 6, 2) := by decide +kernel
theorem d_X12_rootedBy_73 : decode cX12_rootedBy 73 = .ok (.invokevirtual 310, 3) := by decide +kernel
theorem d_X12_rootedBy_76 : decode cX12_rootedBy 76 = .ok (.invokestatic 206, 3) := by decide +kernel
theorem d_X12_rootedBy_79 : decode cX12_rootedBy 79 = .ok (.ifCond .eq 6, 3) := by decide +kernel
theorem d_X12_rootedBy_82 : decode cX12_rootedBy 82 = .ok (.iinc 5 1, 3) := by decide +kernel
theorem d_X12_rootedBy_85 : decode cX12_rootedBy 85 = .ok (.iinc 6 1, 3) := by decide +kernel
theorem d_X12_rootedBy_88 : decode cX12_rootedBy 88 = .ok (.goto (-52), 3) := by decide +kernel
theorem d_X12_rootedBy_91 : decode cX12_rootedBy 91 = .ok (.iload 5, 2) := by decide +kernel
theorem d_X12_rootedBy_93 : decode cX12_rootedBy 93 = .ok (.iload_n 3, 1) := by decide +kernel
theorem d_X12_rootedBy_94 : decode cX12_rootedBy 94 = .ok (.if_icmp .ge 6, 3) := by decide +kernel
theorem d_X12_rootedBy_97 : decode cX12_rootedBy 97 = .ok (.iload 5, 2) := by decide +kernel
theorem d_X12_rootedBy_99 : decode cX12_rootedBy 99 = .ok (.istore_n 3, 1) := by decide +kernel
theorem d_X12_rootedBy_100 : decode cX12_rootedBy 100 = .ok (.iinc 4 1, 3) := by decide +kernel
theorem d_X12_rootedBy_103 : decode cX12_rootedBy 103 = .ok (.goto (-96), 3) := by decide +kernel
theorem d_X12_rootedBy_106 : decode cX12_rootedBy 106 = .ok (.iload_n 3, 1) := by decide +kernel
theorem d_X12_rootedBy_107 : decode cX12_rootedBy 107 = .ok (.ireturn, 1) := by decide +kernel
theorem d_X12_rooted_0 : decode cX12_rooted 0 = .ok (.aload_n 0, 1) := by decide +kernel
theorem d_X12_rooted_1 : decode cX12_rooted 1 = .ok (.iconst 0, 1) := by decide +kernel
theorem d_X12_rooted_2 : decode cX12_rooted 2 = .ok (.putfield 1, 3) := by decide +kernel
theorem d_X12_rooted_5 : decode cX12_rooted 5 = .ok (.aload_n 0, 1) := by decide +kernel
theorem d_X12_rooted_6 : decode cX12_rooted 6 = .ok (.iload_n 1, 1) := by decide +kernel
theorem d_X12_rooted_7 : decode cX12_rooted 7 = .ok (.invokevirtual 304, 3) := by decide +kernel
theorem d_X12_rooted_10 : decode cX12_rooted 10 = .ok (.ifCond .eq 23, 3) := by decide +kernel
theorem d_X12_rooted_13 : decode cX12_rooted 13 = .ok (.aload_n 0, 1) := by decide +kernel
theorem d_X12_rooted_14 : decode cX12_rooted 14 = .ok (.invokevirtual 191, 3) := by decide +kernel
theorem d_X12_rooted_17 : decode cX12_rooted 17 = .ok (.iconst 1, 1) := by decide +kernel
theorem d_X12_rooted_18 : decode cX12_rooted 18 = .ok (.if_icmp .le 15, 3) := by decide +kernel
theorem d_X12_rooted_21 : decode cX12_rooted 21 = .ok (.aload_n 0, 1) := by decide +kernel
theorem d_X12_rooted_22 : decode cX12_rooted 22 = .ok (.iload_n 1, 1) := by decide +kernel
theorem d_X12_rooted_23 : decode cX12_rooted 23 = .ok (.aload_n 0, 1) := by decide +kernel
theorem d_X12_rooted_24 : decode cX12_rooted 24 = .ok (.invokevirtual 233, 3) := by decide +kernel
theorem d_X12_rooted_27 : decode cX12_rooted 27 = .ok (.invokevirtual 360, 3) := by decide +kernel
theorem d_X12_rooted_30 : decode cX12_rooted 30 = .ok (.goto 4, 3) := by decide +kernel
theorem d_X12_rooted_33 : decode cX12_rooted 33 = .ok (.iconst (-1), 1) := by decide +kernel
theorem d_X12_rooted_34 : decode cX12_rooted 34 = .ok (.ireturn, 1) := by decide +kernel
theorem d_X12_treeFrom_0 : decode cX12_treeFrom 0 = .ok (.iconst 1, 1) := by decide +kernel
theorem d_X12_treeFrom_1 : decode cX12_treeFrom 1 = .ok (.iload_n 1, 1) := by decide +kernel
theorem d_X12_treeFrom_2 : decode cX12_treeFrom 2 = .ok (.ishl, 1) := by decide +kernel
theorem d_X12_treeFrom_3 : decode cX12_treeFrom 3 = .ok (.istore 4, 2) := by decide +kernel
theorem d_X12_treeFrom_5 : decode cX12_treeFrom 5 = .ok (.iconst 0, 1) := by decide +kernel
theorem d_X12_treeFrom_6 : decode cX12_treeFrom 6 = .ok (.istore 5, 2) := by decide +kernel
theorem d_X12_treeFrom_8 : decode cX12_treeFrom 8 = .ok (.iload 4, 2) := by decide +kernel
theorem d_X12_treeFrom_10 : decode cX12_treeFrom 10 = .ok (.iconst 1, 1) := by decide +kernel
theorem d_X12_treeFrom_11 : decode cX12_treeFrom 11 = .ok (.aload_n 0, 1) := by decide +kernel
theorem d_X12_treeFrom_12 : decode cX12_treeFrom 12 = .ok (.invokevirtual 191, 3) := by decide +kernel
theorem d_X12_treeFrom_15 : decode cX12_treeFrom 15 = .ok (.ishl, 1) := by decide +kernel
theorem d_X12_treeFrom_16 : decode cX12_treeFrom 16 = .ok (.iconst 1, 1) := by decide +kernel
theorem d_X12_treeFrom_17 : decode cX12_treeFrom 17 = .ok (.isub, 1) := by decide +kernel
theorem d_X12_treeFrom_18 : decode cX12_treeFrom 18 = .ok (.if_icmp .eq 103, 3) := by decide +kernel
theorem d_X12_treeFrom_21 : decode cX12_treeFrom 21 = .ok (.iconst 0, 1) := by decide +kernel
theorem d_X12_treeFrom_22 : decode cX12_treeFrom 22 = .ok (.istore 6, 2) := by decide +kernel
theorem d_X12_treeFrom_24 : decode cX12_treeFrom 24 = .ok (.iload_n 2, 1) := by decide +kernel
theorem d_X12_treeFrom_25 : decode cX12_treeFrom 25 = .ok (.iload 5, 2) := by decide +kernel
theorem d_X12_treeFrom_27 : decode cX12_treeFrom 27 = .ok (.iconst (-1), 1) := by decide +kernel
theorem d_X12_treeFrom_28 : decode cX12_treeFrom 28 = .ok (.ixor, 1) := by decide +kernel
theorem d_X12_treeFrom_29 : decode cX12_treeFrom 29 = .ok (.iand, 1) := by decide +kernel
theorem d_X12_treeFrom_30 : decode cX12_treeFrom 30 = .ok (.iload 6, 2) := by decide +kernel
theorem d_X12_treeFrom_32 : decode cX12_treeFrom 32 = .ok (.invokestatic 206, 3) := by decide +kernel
theorem d_X12_treeFrom_35 : decode cX12_treeFrom 35 = .ok (.ifCond .eq 57, 3) := by decide +kernel
theorem d_X12_treeFrom_38 : decode cX12_treeFrom 38 = .ok (.iload 4, 2) := by decide +kernel
theorem d_X12_treeFrom_40 : decode cX12_treeFrom 40 = .ok (.aload_n 0, 1) := by decide +kernel
theorem d_X12_treeFrom_41 : decode cX12_treeFrom 41 = .ok (.iload 6, 2) := by decide +kernel
theorem d_X12_treeFrom_43 : decode cX12_treeFrom 43 = .ok (.invokevirtual 301, 3) := by decide +kernel
theorem d_X12_treeFrom_46 : decode cX12_treeFrom 46 = .ok (.invokestatic 206, 3) := by decide +kernel
theorem d_X12_treeFrom_49 : decode cX12_treeFrom 49 = .ok (.ifCond .eq 43, 3) := by decide +kernel
theorem d_X12_treeFrom_52 : decode cX12_treeFrom 52 = .ok (.iload 4, 2) := by decide +kernel
theorem d_X12_treeFrom_54 : decode cX12_treeFrom 54 = .ok (.aload_n 0, 1) := by decide +kernel
theorem d_X12_treeFrom_55 : decode cX12_treeFrom 55 = .ok (.iload 6, 2) := by decide +kernel
theorem d_X12_treeFrom_57 : decode cX12_treeFrom 57 = .ok (.invokevirtual 310, 3) := by decide +kernel
theorem d_X12_treeFrom_60 : decode cX12_treeFrom 60 = .ok (.invokestatic 206, 3) := by decide +kernel
theorem d_X12_treeFrom_63 : decode cX12_treeFrom 63 = .ok (.ifCond .ne 29, 3) := by decide +kernel
theorem d_X12_treeFrom_66 : decode cX12_treeFrom 66 = .ok (.iload_n 3, 1) := by decide +kernel
theorem d_X12_treeFrom_67 : decode cX12_treeFrom 67 = .ok (.ifCond .le 31, 3) := by decide +kernel
theorem d_X12_treeFrom_70 : decode cX12_treeFrom 70 = .ok (.aload_n 0, 1) := by decide +kernel
theorem d_X12_treeFrom_71 : decode cX12_treeFrom 71 = .ok (.iload_n 1, 1) := by decide +kernel
theorem d_X12_treeFrom_72 : decode cX12_treeFrom 72 = .ok (.iload_n 2, 1) := by decide +kernel
theorem d_X12_treeFrom_73 : decode cX12_treeFrom 73 = .ok (.iload 5, 2) := by decide +kernel
theorem d_X12_treeFrom_75 : decode cX12_treeFrom 75 = .ok (.iconst (-1), 1) := by decide +kernel
theorem d_X12_treeFrom_76 : decode cX12_treeFrom 76 = .ok (.ixor, 1) := by decide +kernel
theorem d_X12_treeFrom_77 : decode cX12_treeFrom 77 = .ok (.iand, 1) := by decide +kernel
theorem d_X12_treeFrom_78 : decode cX12_treeFrom 78 = .ok (.iconst 1, 1) := by decide +kernel
theorem d_X12_treeFrom_79 : decode cX12_treeFrom 79 = .ok (.iload 6, 2) := by decide +kernel
theorem d_X12_treeFrom_81 : decode cX12_treeFrom 81 = .ok (.ishl, 1) := by decide +kernel
theorem d_X12_treeFrom_82 : decode cX12_treeFrom 82 = .ok (.iconst (-1), 1) := by decide +kernel
theorem d_X12_treeFrom_83 : decode cX12_treeFrom 83 = .ok (.ixor, 1) := by decide +kernel
theorem d_X12_treeFrom_84 : decode cX12_treeFrom 84 = .ok (.iand, 1) := by decide +kernel
theorem d_X12_treeFrom_85 : decode cX12_treeFrom 85 = .ok (.invokevirtual 360, 3) := by decide +kernel
theorem d_X12_treeFrom_88 : decode cX12_treeFrom 88 = .ok (.iload_n 3, 1) := by decide +kernel
theorem d_X12_treeFrom_89 : decode cX12_treeFrom 89 = .ok (.if_icmp .ge 9, 3) := by decide +kernel
theorem d_X12_treeFrom_92 : decode cX12_treeFrom 92 = .ok (.iinc 6 1, 3) := by decide +kernel
theorem d_X12_treeFrom_95 : decode cX12_treeFrom 95 = .ok (.goto (-71), 3) := by decide +kernel
theorem d_X12_treeFrom_98 : decode cX12_treeFrom 98 = .ok (.iload 5, 2) := by decide +kernel
theorem d_X12_treeFrom_100 : decode cX12_treeFrom 100 = .ok (.iconst 1, 1) := by decide +kernel
theorem d_X12_treeFrom_101 : decode cX12_treeFrom 101 = .ok (.iload 6, 2) := by decide +kernel
theorem d_X12_treeFrom_103 : decode cX12_treeFrom 103 = .ok (.ishl, 1) := by decide +kernel
theorem d_X12_treeFrom_104 : decode cX12_treeFrom 104 = .ok (.ior, 1) := by decide +kernel
theorem d_X12_treeFrom_105 : decode cX12_treeFrom 105 = .ok (.istore 5, 2) := by decide +kernel
theorem d_X12_treeFrom_107 : decode cX12_treeFrom 107 = .ok (.iload 4, 2) := by decide +kernel
theorem d_X12_treeFrom_109 : decode cX12_treeFrom 109 = .ok (.aload_n 0, 1) := by decide +kernel
theorem d_X12_treeFrom_110 : decode cX12_treeFrom 110 = .ok (.iload 6, 2) := by decide +kernel
theorem d_X12_treeFrom_112 : decode cX12_treeFrom 112 = .ok (.invokevirtual 209, 3) := by decide +kernel
theorem d_X12_treeFrom_115 : decode cX12_treeFrom 115 = .ok (.ior, 1) := by decide +kernel
theorem d_X12_treeFrom_116 : decode cX12_treeFrom 116 = .ok (.istore 4, 2) := by decide +kernel
theorem d_X12_treeFrom_118 : decode cX12_treeFrom 118 = .ok (.goto (-110), 3) := by decide +kernel
theorem d_X12_treeFrom_121 : decode cX12_treeFrom 121 = .ok (.iload 5, 2) := by decide +kernel
theorem d_X12_treeFrom_123 : decode cX12_treeFrom 123 = .ok (.ireturn, 1) := by decide +kernel
theorem d_X12_outTree_0 : decode cX12_outTree 0 = .ok (.aload_n 0, 1) := by decide +kernel
theorem d_X12_outTree_1 : decode cX12_outTree 1 = .ok (.iconst 0, 1) := by decide +kernel
theorem d_X12_outTree_2 : decode cX12_outTree 2 = .ok (.putfield 1, 3) := by decide +kernel
theorem d_X12_outTree_5 : decode cX12_outTree 5 = .ok (.aload_n 0, 1) := by decide +kernel
theorem d_X12_outTree_6 : decode cX12_outTree 6 = .ok (.iload_n 1, 1) := by decide +kernel
theorem d_X12_outTree_7 : decode cX12_outTree 7 = .ok (.invokevirtual 304, 3) := by decide +kernel
theorem d_X12_outTree_10 : decode cX12_outTree 10 = .ok (.ifCond .eq 11, 3) := by decide +kernel
theorem d_X12_outTree_13 : decode cX12_outTree 13 = .ok (.aload_n 0, 1) := by decide +kernel
theorem d_X12_outTree_14 : decode cX12_outTree 14 = .ok (.invokevirtual 191, 3) := by decide +kernel
theorem d_X12_outTree_17 : decode cX12_outTree 17 = .ok (.iconst 2, 1) := by decide +kernel
theorem d_X12_outTree_18 : decode cX12_outTree 18 = .ok (.if_icmp .ge 5, 3) := by decide +kernel
theorem d_X12_outTree_21 : decode cX12_outTree 21 = .ok (.iconst (-1), 1) := by decide +kernel
theorem d_X12_outTree_22 : decode cX12_outTree 22 = .ok (.ireturn, 1) := by decide +kernel
theorem d_X12_outTree_23 : decode cX12_outTree 23 = .ok (.aload_n 0, 1) := by decide +kernel
theorem d_X12_outTree_24 : decode cX12_outTree 24 = .ok (.invokevirtual 233, 3) := by decide +kernel
theorem d_X12_outTree_27 : decode cX12_outTree 27 = .ok (.istore_n 3, 1) := by decide +kernel
theorem d_X12_outTree_28 : decode cX12_outTree 28 = .ok (.aload_n 0, 1) := by decide +kernel
theorem d_X12_outTree_29 : decode cX12_outTree 29 = .ok (.iload_n 1, 1) := by decide +kernel
theorem d_X12_outTree_30 : decode cX12_outTree 30 = .ok (.iload_n 3, 1) := by decide +kernel
theorem d_X12_outTree_31 : decode cX12_outTree 31 = .ok (.invokevirtual 360, 3) := by decide +kernel
theorem d_X12_outTree_34 : decode cX12_outTree 34 = .ok (.istore 4, 2) := by decide +kernel
theorem d_X12_outTree_36 : decode cX12_outTree 36 = .ok (.iload_n 2, 1) := by decide +kernel
theorem d_X12_outTree_37 : decode cX12_outTree 37 = .ok (.iconst 0, 1) := by decide +kernel
theorem d_X12_outTree_38 : decode cX12_outTree 38 = .ok (.iload 4, 2) := by decide +kernel
theorem d_X12_outTree_40 : decode cX12_outTree 40 = .ok (.iconst 1, 1) := by decide +kernel
theorem d_X12_outTree_41 : decode cX12_outTree 41 = .ok (.isub, 1) := by decide +kernel
theorem d_X12_outTree_42 : decode cX12_outTree 42 = .ok (.invokestatic 83, 3) := by decide +kernel
theorem d_X12_outTree_45 : decode cX12_outTree 45 = .ok (.ifCond .ne 5, 3) := by decide +kernel
theorem d_X12_outTree_48 : decode cX12_outTree 48 = .ok (.iconst (-1), 1) := by decide +kernel
theorem d_X12_outTree_49 : decode cX12_outTree 49 = .ok (.ireturn, 1) := by decide +kernel
theorem d_X12_outTree_50 : decode cX12_outTree 50 = .ok (.iconst 0, 1) := by decide +kernel
theorem d_X12_outTree_51 : decode cX12_outTree 51 = .ok (.istore 5, 2) := by decide +kernel
theorem d_X12_outTree_53 : decode cX12_outTree 53 = .ok (.iconst 0, 1) := by decide +kernel
theorem d_X12_outTree_54 : decode cX12_outTree 54 = .ok (.istore 6, 2) := by decide +kernel
theorem d_X12_outTree_56 : decode cX12_outTree 56 = .ok (.iload 6, 2) := by decide +kernel
theorem d_X12_outTree_58 : decode cX12_outTree 58 = .ok (.iload_n 2, 1) := by decide +kernel
theorem d_X12_outTree_59 : decode cX12_outTree 59 = .ok (.if_icmp .gt 31, 3) := by decide +kernel
theorem d_X12_outTree_62 : decode cX12_outTree 62 = .ok (.aload_n 0, 1) := by decide +kernel
theorem d_X12_outTree_63 : decode cX12_outTree 63 = .ok (.iload_n 1, 1) := by decide +kernel
theorem d_X12_outTree_64 : decode cX12_outTree 64 = .ok (.iload_n 3, 1) := by decide +kernel
theorem d_X12_outTree_65 : decode cX12_outTree 65 = .ok (.iload 4, 2) := by decide +kernel
theorem d_X12_outTree_67 : decode cX12_outTree 67 = .ok (.iconst 1, 1) := by decide +kernel
theorem d_X12_outTree_68 : decode cX12_outTree 68 = .ok (.isub, 1) := by decide +kernel
theorem d_X12_outTree_69 : decode cX12_outTree 69 = .ok (.iload 6, 2) := by decide +kernel
theorem d_X12_outTree_71 : decode cX12_outTree 71 = .ok (.isub, 1) := by decide +kernel
theorem d_X12_outTree_72 : decode cX12_outTree 72 = .ok (.invokevirtual 363, 3) := by decide +kernel
theorem d_X12_outTree_75 : decode cX12_outTree 75 = .ok (.istore 5, 2) := by decide +kernel
theorem d_X12_outTree_77 : decode cX12_outTree 77 = .ok (.iload_n 3, 1) := by decide +kernel
theorem d_X12_outTree_78 : decode cX12_outTree 78 = .ok (.iload 5, 2) := by decide +kernel
theorem d_X12_outTree_80 : decode cX12_outTree 80 = .ok (.iconst (-1), 1) := by decide +kernel
theorem d_X12_outTree_81 : decode cX12_outTree 81 = .ok (.ixor, 1) := by decide +kernel
theorem d_X12_outTree_82 : decode cX12_outTree 82 = .ok (.iand, 1) := by decide +kernel
theorem d_X12_outTree_83 : decode cX12_outTree 83 = .ok (.istore_n 3, 1) := by decide +kernel
theorem d_X12_outTree_84 : decode cX12_outTree 84 = .ok (.iinc 6 1, 3) := by decide +kernel
theorem d_X12_outTree_87 : decode cX12_outTree 87 = .ok (.goto (-31), 3) := by decide +kernel
theorem d_X12_outTree_90 : decode cX12_outTree 90 = .ok (.iload 5, 2) := by decide +kernel
theorem d_X12_outTree_92 : decode cX12_outTree 92 = .ok (.ireturn, 1) := by decide +kernel
theorem d_X12_laysLayers_0 : decode cX12_laysLayers 0 = .ok (.aload_n 0, 1) := by decide +kernel
theorem d_X12_laysLayers_1 : decode cX12_laysLayers 1 = .ok (.invokevirtual 337, 3) := by decide +kernel
theorem d_X12_laysLayers_4 : decode cX12_laysLayers 4 = .ok (.aload_n 0, 1) := by decide +kernel
theorem d_X12_laysLayers_5 : decode cX12_laysLayers 5 = .ok (.iconst 0, 1) := by decide +kernel
theorem d_X12_laysLayers_6 : decode cX12_laysLayers 6 = .ok (.putfield 366, 3) := by decide +kernel
theorem d_X12_laysLayers_9 : decode cX12_laysLayers 9 = .ok (.iconst 1, 1) := by decide +kernel
theorem d_X12_laysLayers_10 : decode cX12_laysLayers 10 = .ok (.aload_n 0, 1) := by decide +kernel
theorem d_X12_laysLayers_11 : decode cX12_laysLayers 11 = .ok (.invokevirtual 191, 3) := by decide +kernel
theorem d_X12_laysLayers_14 : decode cX12_laysLayers 14 = .ok (.ishl, 1) := by decide +kernel
theorem d_X12_laysLayers_15 : decode cX12_laysLayers 15 = .ok (.iconst 1, 1) := by decide +kernel
theorem d_X12_laysLayers_16 : decode cX12_laysLayers 16 = .ok (.isub, 1) := by decide +kernel
theorem d_X12_laysLayers_17 : decode cX12_laysLayers 17 = .ok (.istore_n 1, 1) := by decide +kernel
theorem d_X12_laysLayers_18 : decode cX12_laysLayers 18 = .ok (.aload_n 0, 1) := by decide +kernel
theorem d_X12_laysLayers_19 : decode cX12_laysLayers 19 = .ok (.invokevirtual 233, 3) := by decide +kernel
theorem d_X12_laysLayers_22 : decode cX12_laysLayers 22 = .ok (.istore_n 2, 1) := by decide +kernel
theorem d_X12_laysLayers_23 : decode cX12_laysLayers 23 = .ok (.iload_n 2, 1) := by decide +kernel
theorem d_X12_laysLayers_24 : decode cX12_laysLayers 24 = .ok (.ifCond .eq 252, 3) := by decide +kernel
theorem d_X12_laysLayers_27 : decode cX12_laysLayers 27 = .ok (.aload_n 0, 1) := by decide +kernel
theorem d_X12_laysLayers_28 : decode cX12_laysLayers 28 = .ok (.iload_n 1, 1) := by decide +kernel
theorem d_X12_laysLayers_29 : decode cX12_laysLayers 29 = .ok (.iload_n 2, 1) := by decide +kernel
theorem d_X12_laysLayers_30 : decode cX12_laysLayers 30 = .ok (.invokevirtual 340, 3) := by decide +kernel
theorem d_X12_laysLayers_33 : decode cX12_laysLayers 33 = .ok (.iconst 0, 1) := by decide +kernel
theorem d_X12_laysLayers_34 : decode cX12_laysLayers 34 = .ok (.istore_n 3, 1) := by decide +kernel
theorem d_X12_laysLayers_35 : decode cX12_laysLayers 35 = .ok (.aload_n 0, 1) := by decide +kernel
theorem d_X12_laysLayers_36 : decode cX12_laysLayers 36 = .ok (.getfield 149, 3) := by decide +kernel
theorem d_X12_laysLayers_39 : decode cX12_laysLayers 39 = .ok (.iconst 2, 1) := by decide +kernel
theorem d_X12_laysLayers_40 : decode cX12_laysLayers 40 = .ok (.iaload, 1) := by decide +kernel
theorem d_X12_laysLayers_41 : decode cX12_laysLayers 41 = .ok (.iload_n 3, 1) := by decide +kernel
theorem d_X12_laysLayers_42 : decode cX12_laysLayers 42 = .ok (.invokestatic 206, 3) := by decide +kernel
theorem d_X12_laysLayers_45 : decode cX12_laysLayers 45 = .ok (.ifCond .ne 9, 3) := by decide +kernel
theorem d_X12_laysLayers_48 : decode cX12_laysLayers 48 = .ok (.iinc 3 1, 3) := by decide +kernel
theorem d_X12_laysLayers_51 : decode cX12_laysLayers 51 = .ok (.goto (-16), 3) := by decide +kernel
theorem d_X12_laysLayers_54 : decode cX12_laysLayers 54 = .ok (.iconst 0, 1) := by decide +kernel
theorem d_X12_laysLayers_55 : decode cX12_laysLayers 55 = .ok (.istore 4, 2) := by decide +kernel
theorem d_X12_laysLayers_57 : decode cX12_laysLayers 57 = .ok (.iconst 0, 1) := by decide +kernel
theorem d_X12_laysLayers_58 : decode cX12_laysLayers 58 = .ok (.istore 5, 2) := by decide +kernel
theorem d_X12_laysLayers_60 : decode cX12_laysLayers 60 = .ok (.iload 5, 2) := by decide +kernel
theorem d_X12_laysLayers_62 : decode cX12_laysLayers 62 = .ok (.aload_n 0, 1) := by decide +kernel
theorem d_X12_laysLayers_63 : decode cX12_laysLayers 63 = .ok (.invokevirtual 191, 3) := by decide +kernel
theorem d_X12_laysLayers_66 : decode cX12_laysLayers 66 = .ok (.if_icmp .ge 40, 3) := by decide +kernel
theorem d_X12_laysLayers_69 : decode cX12_laysLayers 69 = .ok (.aload_n 0, 1) := by decide +kernel
theorem d_X12_laysLayers_70 : decode cX12_laysLayers 70 = .ok (.getfield 149, 3) := by decide +kernel
theorem d_X12_laysLayers_73 : decode cX12_laysLayers 73 = .ok (.iconst 2, 1) := by decide +kernel
theorem d_X12_laysLayers_74 : decode cX12_laysLayers 74 = .ok (.iaload, 1) := by decide +kernel
theorem d_X12_laysLayers_75 : decode cX12_laysLayers 75 = .ok (.aload_n 0, 1) := by decide +kernel
theorem d_X12_laysLayers_76 : decode cX12_laysLayers 76 = .ok (.getfield 152, 3) := by decide +kernel
theorem d_X12_laysLayers_79 : decode cX12_laysLayers 79 = .ok (.iload 5, 2) := by decide +kernel
theorem d_X12_laysLayers_81 : decode cX12_laysLayers 81 = .ok (.iaload, 1) := by decide +kernel
theorem d_X12_laysLayers_82 : decode cX12_laysLayers 82 = .ok (.invokestatic 206, 3) := by decide +kernel
theorem d_X12_laysLayers_85 : decode cX12_laysLayers 85 = .ok (.ifCond .ne 6, 3) := by decide +kernel
theorem d_X12_laysLayers_88 : decode cX12_laysLayers 88 = .ok (.goto 12, 3) := by decide +kernel
theorem d_X12_laysLayers_91 : decode cX12_laysLayers 91 = .ok (.iload 4, 2) := by decide +kernel
theorem d_X12_laysLayers_93 : decode cX12_laysLayers 93 = .ok (.iconst 1, 1) := by decide +kernel
theorem d_X12_laysLayers_94 : decode cX12_laysLayers 94 = .ok (.iload 5, 2) := by decide +kernel
theorem d_X12_laysLayers_96 : decode cX12_laysLayers 96 = .ok (.ishl, 1) := by decide +kernel
theorem d_X12_laysLayers_97 : decode cX12_laysLayers 97 = .ok (.ior, 1) := by decide +kernel
theorem d_X12_laysLayers_98 : decode cX12_laysLayers 98 = .ok (.istore 4, 2) := by decide +kernel
theorem d_X12_laysLayers_100 : decode cX12_laysLayers 100 = .ok (.iinc 5 1, 3) := by decide +kernel
theorem d_X12_laysLayers_103 : decode cX12_laysLayers 103 = .ok (.goto (-43), 3) := by decide +kernel
theorem d_X12_laysLayers_106 : decode cX12_laysLayers 106 = .ok (.iconst 0, 1) := by decide +kernel
theorem d_X12_laysLayers_107 : decode cX12_laysLayers 107 = .ok (.istore 5, 2) := by decide +kernel
theorem d_X12_laysLayers_109 : decode cX12_laysLayers 109 = .ok (.iload 5, 2) := by decide +kernel
theorem d_X12_laysLayers_111 : decode cX12_laysLayers 111 = .ok (.aload_n 0, 1) := by decide +kernel
theorem d_X12_laysLayers_112 : decode cX12_laysLayers 112 = .ok (.invokevirtual 191, 3) := by decide +kernel
theorem d_X12_laysLayers_115 : decode cX12_laysLayers 115 = .ok (.if_icmp .ge 27, 3) := by decide +kernel
theorem d_X12_laysLayers_118 : decode cX12_laysLayers 118 = .ok (.iload 4, 2) := by decide +kernel
theorem d_X12_laysLayers_120 : decode cX12_laysLayers 120 = .ok (.iload 5, 2) := by decide +kernel
theorem d_X12_laysLayers_122 : decode cX12_laysLayers 122 = .ok (.invokestatic 206, 3) := by decide +kernel
theorem d_X12_laysLayers_125 : decode cX12_laysLayers 125 = .ok (.ifCond .eq 11, 3) := by decide +kernel
theorem d_X12_laysLayers_128 : decode cX12_laysLayers 128 = .ok (.aload_n 0, 1) := by decide +kernel
theorem d_X12_laysLayers_129 : decode cX12_laysLayers 129 = .ok (.getfield 152, 3) := by decide +kernel
theorem d_X12_laysLayers_132 : decode cX12_laysLayers 132 = .ok (.iload 5, 2) := by decide +kernel
theorem d_X12_laysLayers_134 : decode cX12_laysLayers 134 = .ok (.iload_n 3, 1) := by decide +kernel
theorem d_X12_laysLayers_135 : decode cX12_laysLayers 135 = .ok (.iastore, 1) := by decide +kernel
theorem d_X12_laysLayers_136 : decode cX12_laysLayers 136 = .ok (.iinc 5 1, 3) := by decide +kernel
theorem d_X12_laysLayers_139 : decode cX12_laysLayers 139 = .ok (.goto (-30), 3) := by decide +kernel
theorem d_X12_laysLayers_142 : decode cX12_laysLayers 142 = .ok (.aload_n 0, 1) := by decide +kernel
theorem d_X12_laysLayers_143 : decode cX12_laysLayers 143 = .ok (.getfield 158, 3) := by decide +kernel
theorem d_X12_laysLayers_146 : decode cX12_laysLayers 146 = .ok (.iconst 3, 1) := by decide +kernel
theorem d_X12_laysLayers_147 : decode cX12_laysLayers 147 = .ok (.aload_n 0, 1) := by decide +kernel
theorem d_X12_laysLayers_148 : decode cX12_laysLayers 148 = .ok (.getfield 366, 3) := by decide +kernel
theorem d_X12_laysLayers_151 : decode cX12_laysLayers 151 = .ok (.imul, 1) := by decide +kernel
theorem d_X12_laysLayers_152 : decode cX12_laysLayers 152 = .ok (.aload_n 0, 1) := by decide +kernel
theorem d_X12_laysLayers_153 : decode cX12_laysLayers 153 = .ok (.getfield 149, 3) := by decide +kernel
theorem d_X12_laysLayers_156 : decode cX12_laysLayers 156 = .ok (.iconst 0, 1) := by decide +kernel
theorem d_X12_laysLayers_157 : decode cX12_laysLayers 157 = .ok (.iaload, 1) := by decide +kernel
theorem d_X12_laysLayers_158 : decode cX12_laysLayers 158 = .ok (.iastore, 1) := by decide +kernel
theorem d_X12_laysLayers_159 : decode cX12_laysLayers 159 = .ok (.aload_n 0, 1) := by decide +kernel
theorem d_X12_laysLayers_160 : decode cX12_laysLayers 160 = .ok (.getfield 158, 3) := by decide +kernel
theorem d_X12_laysLayers_163 : decode cX12_laysLayers 163 = .ok (.iconst 3, 1) := by decide +kernel
theorem d_X12_laysLayers_164 : decode cX12_laysLayers 164 = .ok (.aload_n 0, 1) := by decide +kernel
theorem d_X12_laysLayers_165 : decode cX12_laysLayers 165 = .ok (.getfield 366, 3) := by decide +kernel
theorem d_X12_laysLayers_168 : decode cX12_laysLayers 168 = .ok (.imul, 1) := by decide +kernel
theorem d_X12_laysLayers_169 : decode cX12_laysLayers 169 = .ok (.iconst 1, 1) := by decide +kernel
theorem d_X12_laysLayers_170 : decode cX12_laysLayers 170 = .ok (.iadd, 1) := by decide +kernel
theorem d_X12_laysLayers_171 : decode cX12_laysLayers 171 = .ok (.aload_n 0, 1) := by decide +kernel
theorem d_X12_laysLayers_172 : decode cX12_laysLayers 172 = .ok (.getfield 149, 3) := by decide +kernel
theorem d_X12_laysLayers_175 : decode cX12_laysLayers 175 = .ok (.iconst 1, 1) := by decide +kernel
theorem d_X12_laysLayers_176 : decode cX12_laysLayers 176 = .ok (.iaload, 1) := by decide +kernel
theorem d_X12_laysLayers_177 : decode cX12_laysLayers 177 = .ok (.iastore, 1) := by decide +kernel
theorem d_X12_laysLayers_178 : decode cX12_laysLayers 178 = .ok (.aload_n 0, 1) := by decide +kernel
theorem d_X12_laysLayers_179 : decode cX12_laysLayers 179 = .ok (.getfield 158, 3) := by decide +kernel
theorem d_X12_laysLayers_182 : decode cX12_laysLayers 182 = .ok (.iconst 3, 1) := by decide +kernel
theorem d_X12_laysLayers_183 : decode cX12_laysLayers 183 = .ok (.aload_n 0, 1) := by decide +kernel
theorem d_X12_laysLayers_184 : decode cX12_laysLayers 184 = .ok (.getfield 366, 3) := by decide +kernel
theorem d_X12_laysLayers_187 : decode cX12_laysLayers 187 = .ok (.imul, 1) := by decide +kernel
theorem d_X12_laysLayers_188 : decode cX12_laysLayers 188 = .ok (.iconst 2, 1) := by decide +kernel
theorem d_X12_laysLayers_189 : decode cX12_laysLayers 189 = .ok (.iadd, 1) := by decide +kernel
theorem d_X12_laysLayers_190 : decode cX12_laysLayers 190 = .ok (.iload 4, 2) := by decide +kernel
theorem d_X12_laysLayers_192 : decode cX12_laysLayers 192 = .ok (.iastore, 1) := by decide +kernel
theorem d_X12_laysLayers_193 : decode cX12_laysLayers 193 = .ok (.aload_n 0, 1) := by decide +kernel
theorem d_X12_laysLayers_194 : decode cX12_laysLayers 194 = .ok (.dup, 1) := by decide +kernel
theorem d_X12_laysLayers_195 : decode cX12_laysLayers 195 = .ok (.getfield 366, 3) := by decide +kernel
theorem d_X12_laysLayers_198 : decode cX12_laysLayers 198 = .ok (.iconst 1, 1) := by decide +kernel
theorem d_X12_laysLayers_199 : decode cX12_laysLayers 199 = .ok (.iadd, 1) := by decide +kernel
theorem d_X12_laysLayers_200 : decode cX12_laysLayers 200 = .ok (.putfield 366, 3) := by decide +kernel
theorem d_X12_laysLayers_203 : decode cX12_laysLayers 203 = .ok (.iload_n 1, 1) := by decide +kernel
theorem d_X12_laysLayers_204 : decode cX12_laysLayers 204 = .ok (.iload 4, 2) := by decide +kernel
theorem d_X12_laysLayers_206 : decode cX12_laysLayers 206 = .ok (.iconst (-1), 1) := by decide +kernel
theorem d_X12_laysLayers_207 : decode cX12_laysLayers 207 = .ok (.ixor, 1) := by decide +kernel
theorem d_X12_laysLayers_208 : decode cX12_laysLayers 208 = .ok (.iand, 1) := by decide +kernel
theorem d_X12_laysLayers_209 : decode cX12_laysLayers 209 = .ok (.iconst 1, 1) := by decide +kernel
theorem d_X12_laysLayers_210 : decode cX12_laysLayers 210 = .ok (.iload_n 3, 1) := by decide +kernel
theorem d_X12_laysLayers_211 : decode cX12_laysLayers 211 = .ok (.ishl, 1) := by decide +kernel
theorem d_X12_laysLayers_212 : decode cX12_laysLayers 212 = .ok (.ior, 1) := by decide +kernel
theorem d_X12_laysLayers_213 : decode cX12_laysLayers 213 = .ok (.istore_n 1, 1) := by decide +kernel
theorem d_X12_laysLayers_214 : decode cX12_laysLayers 214 = .ok (.iconst 0, 1) := by decide +kernel
theorem d_X12_laysLayers_215 : decode cX12_laysLayers 215 = .ok (.istore 5, 2) := by decide +kernel
theorem d_X12_laysLayers_217 : decode cX12_laysLayers 217 = .ok (.iload 5, 2) := by decide +kernel
theorem d_X12_laysLayers_219 : decode cX12_laysLayers 219 = .ok (.aload_n 0, 1) := by decide +kernel
theorem d_X12_laysLayers_220 : decode cX12_laysLayers 220 = .ok (.invokevirtual 194, 3) := by decide +kernel
theorem d_X12_laysLayers_223 : decode cX12_laysLayers 223 = .ok (.if_icmp .ge 50, 3) := by decide +kernel
theorem d_X12_laysLayers_226 : decode cX12_laysLayers 226 = .ok (.aload_n 0, 1) := by decide +kernel
theorem d_X12_laysLayers_227 : decode cX12_laysLayers 227 = .ok (.getfield 152, 3) := by decide +kernel
theorem d_X12_laysLayers_230 : decode cX12_laysLayers 230 = .ok (.aload_n 0, 1) := by decide +kernel
theorem d_X12_laysLayers_231 : decode cX12_laysLayers 231 = .ok (.getfield 99, 3) := by decide +kernel
theorem d_X12_laysLayers_234 : decode cX12_laysLayers 234 = .ok (.iconst 3, 1) := by decide +kernel
theorem d_X12_laysLayers_235 : decode cX12_laysLayers 235 = .ok (.iload 5, 2) := by decide +kernel
theorem d_X12_laysLayers_237 : decode cX12_laysLayers 237 = .ok (.iadd, 1) := by decide +kernel
theorem d_X12_laysLayers_238 : decode cX12_laysLayers 238 = .ok (.iaload, 1) := by decide +kernel
theorem d_X12_laysLayers_239 : decode cX12_laysLayers 239 = .ok (.iaload, 1) := by decide +kernel
theorem d_X12_laysLayers_240 : decode cX12_laysLayers 240 = .ok (.aload_n 0, 1) := by decide +kernel
theorem d_X12_laysLayers_241 : decode cX12_laysLayers 241 = .ok (.getfield 152, 3) := by decide +kernel
theorem d_X12_laysLayers_244 : decode cX12_laysLayers 244 = .ok (.aload_n 0, 1) := by decide +kernel
theorem d_X12_laysLayers_245 : decode cX12_laysLayers 245 = .ok (.getfield 99, 3) := by decide +kernel
theorem d_X12_laysLayers_248 : decode cX12_laysLayers 248 = .ok (.bipush 27, 2) := by decide +kernel
theorem d_X12_laysLayers_250 : decode cX12_laysLayers 250 = .ok (.iload 5, 2) := by decide +kernel
theorem d_X12_laysLayers_252 : decode cX12_laysLayers 252 = .ok (.iadd, 1) := by decide +kernel
theorem d_X12_laysLayers_253 : decode cX12_laysLayers 253 = .ok (.iaload, 1) := by decide +kernel
theorem d_X12_laysLayers_254 : decode cX12_laysLayers 254 = .ok (.iaload, 1) := by decide +kernel
theorem d_X12_laysLayers_255 : decode cX12_laysLayers 255 = .ok (.if_icmp .ne 12, 3) := by decide +kernel
theorem d_X12_laysLayers_258 : decode cX12_laysLayers 258 = .ok (.iload_n 2, 1) := by decide +kernel
theorem d_X12_laysLayers_259 : decode cX12_laysLayers 259 = .ok (.iconst 1, 1) := by decide +kernel
theorem d_X12_laysLayers_260 : decode cX12_laysLayers 260 = .ok (.iload 5, 2) := by decide +kernel
theorem d_X12_laysLayers_262 : decode cX12_laysLayers 262 = .ok (.ishl, 1) := by decide +kernel
theorem d_X12_laysLayers_263 : decode cX12_laysLayers 263 = .ok (.iconst (-1), 1) := by decide +kernel
theorem d_X12_laysLayers_264 : decode cX12_laysLayers 264 = .ok (.ixor, 1) := by decide +kernel
theorem d_X12_laysLayers_265 : decode cX12_laysLayers 265 = .ok (.iand, 1) := by decide +kernel
theorem d_X12_laysLayers_266 : decode cX12_laysLayers 266 = .ok (.istore_n 2, 1) := by decide +kernel
theorem d_X12_laysLayers_267 : decode cX12_laysLayers 267 = .ok (.iinc 5 1, 3) := by decide +kernel
theorem d_X12_laysLayers_270 : decode cX12_laysLayers 270 = .ok (.goto (-53), 3) := by decide +kernel
theorem d_X12_laysLayers_273 : decode cX12_laysLayers 273 = .ok (.goto (-250), 3) := by decide +kernel
theorem d_X12_laysLayers_276 : decode cX12_laysLayers 276 = .ok (.return_, 1) := by decide +kernel
theorem d_X12_layers_0 : decode cX12_layers 0 = .ok (.aload_n 0, 1) := by decide +kernel
theorem d_X12_layers_1 : decode cX12_layers 1 = .ok (.iconst 0, 1) := by decide +kernel
theorem d_X12_layers_2 : decode cX12_layers 2 = .ok (.putfield 1, 3) := by decide +kernel
theorem d_X12_layers_5 : decode cX12_layers 5 = .ok (.aload_n 0, 1) := by decide +kernel
theorem d_X12_layers_6 : decode cX12_layers 6 = .ok (.invokevirtual 369, 3) := by decide +kernel
theorem d_X12_layers_9 : decode cX12_layers 9 = .ok (.aload_n 0, 1) := by decide +kernel
theorem d_X12_layers_10 : decode cX12_layers 10 = .ok (.getfield 366, 3) := by decide +kernel
theorem d_X12_layers_13 : decode cX12_layers 13 = .ok (.ireturn, 1) := by decide +kernel
theorem d_X12_layerAt_0 : decode cX12_layerAt 0 = .ok (.aload_n 0, 1) := by decide +kernel
theorem d_X12_layerAt_1 : decode cX12_layerAt 1 = .ok (.iconst 0, 1) := by decide +kernel
theorem d_X12_layerAt_2 : decode cX12_layerAt 2 = .ok (.putfield 1, 3) := by decide +kernel
theorem d_X12_layerAt_5 : decode cX12_layerAt 5 = .ok (.aload_n 0, 1) := by decide +kernel
theorem d_X12_layerAt_6 : decode cX12_layerAt 6 = .ok (.invokevirtual 369, 3) := by decide +kernel
theorem d_X12_layerAt_9 : decode cX12_layerAt 9 = .ok (.iload_n 1, 1) := by decide +kernel
theorem d_X12_layerAt_10 : decode cX12_layerAt 10 = .ok (.iconst 0, 1) := by decide +kernel
theorem d_X12_layerAt_11 : decode cX12_layerAt 11 = .ok (.aload_n 0, 1) := by decide +kernel
theorem d_X12_layerAt_12 : decode cX12_layerAt 12 = .ok (.getfield 366, 3) := by decide +kernel
theorem d_X12_layerAt_15 : decode cX12_layerAt 15 = .ok (.iconst 1, 1) := by decide +kernel
theorem d_X12_layerAt_16 : decode cX12_layerAt 16 = .ok (.isub, 1) := by decide +kernel
theorem d_X12_layerAt_17 : decode cX12_layerAt 17 = .ok (.invokestatic 83, 3) := by decide +kernel
theorem d_X12_layerAt_20 : decode cX12_layerAt 20 = .ok (.ifCond .eq 12, 3) := by decide +kernel
theorem d_X12_layerAt_23 : decode cX12_layerAt 23 = .ok (.iload_n 2, 1) := by decide +kernel
theorem d_X12_layerAt_24 : decode cX12_layerAt 24 = .ok (.iconst 0, 1) := by decide +kernel
theorem d_X12_layerAt_25 : decode cX12_layerAt 25 = .ok (.iconst 2, 1) := by decide +kernel
theorem d_X12_layerAt_26 : decode cX12_layerAt 26 = .ok (.invokestatic 83, 3) := by decide +kernel
theorem d_X12_layerAt_29 : decode cX12_layerAt 29 = .ok (.ifCond .ne 5, 3) := by decide +kernel
theorem d_X12_layerAt_32 : decode cX12_layerAt 32 = .ok (.iconst (-1), 1) := by decide +kernel
theorem d_X12_layerAt_33 : decode cX12_layerAt 33 = .ok (.ireturn, 1) := by decide +kernel
theorem d_X12_layerAt_34 : decode cX12_layerAt 34 = .ok (.iload_n 2, 1) := by decide +kernel
theorem d_X12_layerAt_35 : decode cX12_layerAt 35 = .ok (.iconst 2, 1) := by decide +kernel
theorem d_X12_layerAt_36 : decode cX12_layerAt 36 = .ok (.if_icmp .ne 16, 3) := by decide +kernel
theorem d_X12_layerAt_39 : decode cX12_layerAt 39 = .ok (.aload_n 0, 1) := by decide +kernel
theorem d_X12_layerAt_40 : decode cX12_layerAt 40 = .ok (.getfield 158, 3) := by decide +kernel
theorem d_X12_layerAt_43 : decode cX12_layerAt 43 = .ok (.iconst 3, 1) := by decide +kernel
theorem d_X12_layerAt_44 : decode cX12_layerAt 44 = .ok (.iload_n 1, 1) := by decide +kernel
theorem d_X12_layerAt_45 : decode cX12_layerAt 45 = .ok (.imul, 1) := by decide +kernel
theorem d_X12_layerAt_46 : decode cX12_layerAt 46 = .ok (.iconst 2, 1) := by decide +kernel
theorem d_X12_layerAt_47 : decode cX12_layerAt 47 = .ok (.iadd, 1) := by decide +kernel
theorem d_X12_layerAt_48 : decode cX12_layerAt 48 = .ok (.iaload, 1) := by decide +kernel
theorem d_X12_layerAt_49 : decode cX12_layerAt 49 = .ok (.goto 25, 3) := by decide +kernel
theorem d_X12_layerAt_52 : decode cX12_layerAt 52 = .ok (.aload_n 0, 1) := by decide +kernel
theorem d_X12_layerAt_53 : decode cX12_layerAt 53 = .ok (.getfield 158, 3) := by decide +kernel
theorem d_X12_layerAt_56 : decode cX12_layerAt 56 = .ok (.iconst 3, 1) := by decide +kernel
theorem d_X12_layerAt_57 : decode cX12_layerAt 57 = .ok (.iload_n 1, 1) := by decide +kernel
theorem d_X12_layerAt_58 : decode cX12_layerAt 58 = .ok (.imul, 1) := by decide +kernel
theorem d_X12_layerAt_59 : decode cX12_layerAt 59 = .ok (.iaload, 1) := by decide +kernel
theorem d_X12_layerAt_60 : decode cX12_layerAt 60 = .ok (.aload_n 0, 1) := by decide +kernel
theorem d_X12_layerAt_61 : decode cX12_layerAt 61 = .ok (.getfield 158, 3) := by decide +kernel
theorem d_X12_layerAt_64 : decode cX12_layerAt 64 = .ok (.iconst 3, 1) := by decide +kernel
theorem d_X12_layerAt_65 : decode cX12_layerAt 65 = .ok (.iload_n 1, 1) := by decide +kernel
theorem d_X12_layerAt_66 : decode cX12_layerAt 66 = .ok (.imul, 1) := by decide +kernel
theorem d_X12_layerAt_67 : decode cX12_layerAt 67 = .ok (.iconst 1, 1) := by decide +kernel
theorem d_X12_layerAt_68 : decode cX12_layerAt 68 = .ok (.iadd, 1) := by decide +kernel
theorem d_X12_layerAt_69 : decode cX12_layerAt 69 = .ok (.iaload, 1) := by decide +kernel
theorem d_X12_layerAt_70 : decode cX12_layerAt 70 = .ok (.iload_n 2, 1) := by decide +kernel
theorem d_X12_layerAt_71 : decode cX12_layerAt 71 = .ok (.invokestatic 343, 3) := by decide +kernel
theorem d_X12_layerAt_74 : decode cX12_layerAt 74 = .ok (.ireturn, 1) := by decide +kernel
theorem d_X12_lightest_0 : decode cX12_lightest 0 = .ok (.iconst (-1), 1) := by decide +kernel
theorem d_X12_lightest_1 : decode cX12_lightest 1 = .ok (.istore_n 2, 1) := by decide +kernel
theorem d_X12_lightest_2 : decode cX12_lightest 2 = .ok (.iconst 0, 1) := by decide +kernel
theorem d_X12_lightest_3 : decode cX12_lightest 3 = .ok (.istore_n 3, 1) := by decide +kernel
theorem d_X12_lightest_4 : decode cX12_lightest 4 = .ok (.iload_n 3, 1) := by decide +kernel
theorem d_X12_lightest_5 : decode cX12_lightest 5 = .ok (.aload_n 0, 1) := by decide +kernel
theorem d_X12_lightest_6 : decode cX12_lightest 6 = .ok (.invokevirtual 194, 3) := by decide +kernel
theorem d_X12_lightest_9 : decode cX12_lightest 9 = .ok (.if_icmp .ge 45, 3) := by decide +kernel
theorem d_X12_lightest_12 : decode cX12_lightest 12 = .ok (.iload_n 1, 1) := by decide +kernel
theorem d_X12_lightest_13 : decode cX12_lightest 13 = .ok (.iload_n 3, 1) := by decide +kernel
theorem d_X12_lightest_14 : decode cX12_lightest 14 = .ok (.invokestatic 206, 3) := by decide +kernel
theorem d_X12_lightest_17 : decode cX12_lightest 17 = .ok (.ifCond .eq 31, 3) := by decide +kernel
theorem d_X12_lightest_20 : decode cX12_lightest 20 = .ok (.iload_n 2, 1) := by decide +kernel
theorem d_X12_lightest_21 : decode cX12_lightest 21 = .ok (.iconst (-1), 1) := by decide +kernel
theorem d_X12_lightest_22 : decode cX12_lightest 22 = .ok (.if_icmp .eq 24, 3) := by decide +kernel
theorem d_X12_lightest_25 : decode cX12_lightest 25 = .ok (.aload_n 0, 1) := by decide +kernel
theorem d_X12_lightest_26 : decode cX12_lightest 26 = .ok (.getfield 99, 3) := by decide +kernel
theorem d_X12_lightest_29 : decode cX12_lightest 29 = .ok (.bipush 51, 2) := by decide +kernel
theorem d_X12_lightest_31 : decode cX12_lightest 31 = .ok (.iload_n 3, 1) := by decide +kernel
theorem d_X12_lightest_32 : decode cX12_lightest 32 = .ok (.iadd, 1) := by decide +kernel
theorem d_X12_lightest_33 : decode cX12_lightest 33 = .ok (.iaload, 1) := by decide +kernel
theorem d_X12_lightest_34 : decode cX12_lightest 34 = .ok (.aload_n 0, 1) := by decide +kernel
theorem d_X12_lightest_35 : decode cX12_lightest 35 = .ok (.getfield 99, 3) := by decide +kernel
theorem d_X12_lightest_38 : decode cX12_lightest 38 = .ok (.bipush 51, 2) := by decide +kernel
theorem d_X12_lightest_40 : decode cX12_lightest 40 = .ok (.iload_n 2, 1) := by decide +kernel
theorem d_X12_lightest_41 : decode cX12_lightest 41 = .ok (.iadd, 1) := by decide +kernel
theorem d_X12_lightest_42 : decode cX12_lightest 42 = .ok (.iaload, 1) := by decide +kernel
theorem d_X12_lightest_43 : decode cX12_lightest 43 = .ok (.if_icmp .ge 5, 3) := by decide +kernel
theorem d_X12_lightest_46 : decode cX12_lightest 46 = .ok (.iload_n 3, 1) := by decide +kernel
theorem d_X12_lightest_47 : decode cX12_lightest 47 = .ok (.istore_n 2, 1) := by decide +kernel
theorem d_X12_lightest_48 : decode cX12_lightest 48 = .ok (.iinc 3 1, 3) := by decide +kernel
theorem d_X12_lightest_51 : decode cX12_lightest 51 = .ok (.goto (-47), 3) := by decide +kernel
theorem d_X12_lightest_54 : decode cX12_lightest 54 = .ok (.iload_n 2, 1) := by decide +kernel
theorem d_X12_lightest_55 : decode cX12_lightest 55 = .ok (.ireturn, 1) := by decide +kernel
theorem d_X12_light_0 : decode cX12_light 0 = .ok (.aload_n 0, 1) := by decide +kernel
theorem d_X12_light_1 : decode cX12_light 1 = .ok (.iconst 0, 1) := by decide +kernel
theorem d_X12_light_2 : decode cX12_light 2 = .ok (.putfield 1, 3) := by decide +kernel
theorem d_X12_light_5 : decode cX12_light 5 = .ok (.iload_n 1, 1) := by decide +kernel
theorem d_X12_light_6 : decode cX12_light 6 = .ok (.invokestatic 328, 3) := by decide +kernel
theorem d_X12_light_9 : decode cX12_light 9 = .ok (.ifCond .eq 12, 3) := by decide +kernel
theorem d_X12_light_12 : decode cX12_light 12 = .ok (.iload_n 2, 1) := by decide +kernel
theorem d_X12_light_13 : decode cX12_light 13 = .ok (.iconst 0, 1) := by decide +kernel
theorem d_X12_light_14 : decode cX12_light 14 = .ok (.iconst 1, 1) := by decide +kernel
theorem d_X12_light_15 : decode cX12_light 15 = .ok (.invokestatic 83, 3) := by decide +kernel
theorem d_X12_light_18 : decode cX12_light 18 = .ok (.ifCond .ne 5, 3) := by decide +kernel
theorem d_X12_light_21 : decode cX12_light 21 = .ok (.iconst (-1), 1) := by decide +kernel
theorem d_X12_light_22 : decode cX12_light 22 = .ok (.ireturn, 1) := by decide +kernel
theorem d_X12_light_23 : decode cX12_light 23 = .ok (.iconst 0, 1) := by decide +kernel
theorem d_X12_light_24 : decode cX12_light 24 = .ok (.istore_n 3, 1) := by decide +kernel
theorem d_X12_light_25 : decode cX12_light 25 = .ok (.iconst 0, 1) := by decide +kernel
theorem d_X12_light_26 : decode cX12_light 26 = .ok (.istore 4, 2) := by decide +kernel
theorem d_X12_light_28 : decode cX12_light 28 = .ok (.aload_n 0, 1) := by decide +kernel
theorem d_X12_light_29 : decode cX12_light 29 = .ok (.invokevirtual 233, 3) := by decide +kernel
theorem d_X12_light_32 : decode cX12_light 32 = .ok (.istore 5, 2) := by decide +kernel
theorem d_X12_light_34 : decode cX12_light 34 = .ok (.iload 5, 2) := by decide +kernel
theorem d_X12_light_36 : decode cX12_light 36 = .ok (.ifCond .eq 61, 3) := by decide +kernel
theorem d_X12_light_39 : decode cX12_light 39 = .ok (.aload_n 0, 1) := by decide +kernel
theorem d_X12_light_40 : decode cX12_light 40 = .ok (.iload 5, 2) := by decide +kernel
theorem d_X12_light_42 : decode cX12_light 42 = .ok (.invokevirtual 372, 3) := by decide +kernel
theorem d_X12_light_45 : decode cX12_light 45 = .ok (.istore 6, 2) := by decide +kernel
theorem d_X12_light_47 : decode cX12_light 47 = .ok (.iload 5, 2) := by decide +kernel
theorem d_X12_light_49 : decode cX12_light 49 = .ok (.iconst 1, 1) := by decide +kernel
theorem d_X12_light_50 : decode cX12_light 50 = .ok (.iload 6, 2) := by decide +kernel
theorem d_X12_light_52 : decode cX12_light 52 = .ok (.ishl, 1) := by decide +kernel
theorem d_X12_light_53 : decode cX12_light 53 = .ok (.iconst (-1), 1) := by decide +kernel
theorem d_X12_light_54 : decode cX12_light 54 = .ok (.ixor, 1) := by decide +kernel
theorem d_X12_light_55 : decode cX12_light 55 = .ok (.iand, 1) := by decide +kernel
theorem d_X12_light_56 : decode cX12_light 56 = .ok (.istore 5, 2) := by decide +kernel
theorem d_X12_light_58 : decode cX12_light 58 = .ok (.aload_n 0, 1) := by decide +kernel
theorem d_X12_light_59 : decode cX12_light 59 = .ok (.iload 6, 2) := by decide +kernel
theorem d_X12_light_61 : decode cX12_light 61 = .ok (.iload_n 3, 1) := by decide +kernel
theorem d_X12_light_62 : decode cX12_light 62 = .ok (.iload_n 1, 1) := by decide +kernel
theorem d_X12_light_63 : decode cX12_light 63 = .ok (.invokevirtual 325, 3) := by decide +kernel
theorem d_X12_light_66 : decode cX12_light 66 = .ok (.ifCond .ne 6, 3) := by decide +kernel
theorem d_X12_light_69 : decode cX12_light 69 = .ok (.goto (-35), 3) := by decide +kernel
theorem d_X12_light_72 : decode cX12_light 72 = .ok (.iload_n 3, 1) := by decide +kernel
theorem d_X12_light_73 : decode cX12_light 73 = .ok (.iconst 1, 1) := by decide +kernel
theorem d_X12_light_74 : decode cX12_light 74 = .ok (.iload 6, 2) := by decide +kernel
theorem d_X12_light_76 : decode cX12_light 76 = .ok (.ishl, 1) := by decide +kernel
theorem d_X12_light_77 : decode cX12_light 77 = .ok (.ior, 1) := by decide +kernel
theorem d_X12_light_78 : decode cX12_light 78 = .ok (.istore_n 3, 1) := by decide +kernel
theorem d_X12_light_79 : decode cX12_light 79 = .ok (.iload 4, 2) := by decide +kernel
theorem d_X12_light_81 : decode cX12_light 81 = .ok (.aload_n 0, 1) := by decide +kernel
theorem d_X12_light_82 : decode cX12_light 82 = .ok (.getfield 99, 3) := by decide +kernel
theorem d_X12_light_85 : decode cX12_light 85 = .ok (.bipush 51, 2) := by decide +kernel
theorem d_X12_light_87 : decode cX12_light 87 = .ok (.iload 6, 2) := by decide +kernel
theorem d_X12_light_89 : decode cX12_light 89 = .ok (.iadd, 1) := by decide +kernel
theorem d_X12_light_90 : decode cX12_light 90 = .ok (.iaload, 1) := by decide +kernel
theorem d_X12_light_91 : decode cX12_light 91 = .ok (.iadd, 1) := by decide +kernel
theorem d_X12_light_92 : decode cX12_light 92 = .ok (.istore 4, 2) := by decide +kernel
theorem d_X12_light_94 : decode cX12_light 94 = .ok (.goto (-60), 3) := by decide +kernel
theorem d_X12_light_97 : decode cX12_light 97 = .ok (.iload_n 2, 1) := by decide +kernel
theorem d_X12_light_98 : decode cX12_light 98 = .ok (.ifCond .ne 8, 3) := by decide +kernel
theorem d_X12_light_101 : decode cX12_light 101 = .ok (.iload 4, 2) := by decide +kernel
theorem d_X12_light_103 : decode cX12_light 103 = .ok (.goto 4, 3) := by decide +kernel
theorem d_X12_light_106 : decode cX12_light 106 = .ok (.iload_n 3, 1) := by decide +kernel
theorem d_X12_light_107 : decode cX12_light 107 = .ok (.ireturn, 1) := by decide +kernel
theorem d_X12_draw_0 : decode cX12_draw 0 = .ok (.aload_n 0, 1) := by decide +kernel
theorem d_X12_draw_1 : decode cX12_draw 1 = .ok (.aload_n 0, 1) := by decide +kernel
theorem d_X12_draw_2 : decode cX12_draw 2 = .ok (.getfield 375, 3) := by decide +kernel
theorem d_X12_draw_5 : decode cX12_draw 5 = .ok (.ldc_w 378, 3) := by decide +kernel
theorem d_X12_draw_8 : decode cX12_draw 8 = .ok (.imul, 1) := by decide +kernel
theorem d_X12_draw_9 : decode cX12_draw 9 = .ok (.sipush 12345, 3) := by decide +kernel
theorem d_X12_draw_12 : decode cX12_draw 12 = .ok (.iadd, 1) := by decide +kernel
theorem d_X12_draw_13 : decode cX12_draw 13 = .ok (.putfield 375, 3) := by decide +kernel
theorem d_X12_draw_16 : decode cX12_draw 16 = .ok (.aload_n 0, 1) := by decide +kernel
theorem d_X12_draw_17 : decode cX12_draw 17 = .ok (.getfield 375, 3) := by decide +kernel
theorem d_X12_draw_20 : decode cX12_draw 20 = .ok (.bipush 8, 2) := by decide +kernel
theorem d_X12_draw_22 : decode cX12_draw 22 = .ok (.iushr, 1) := by decide +kernel
theorem d_X12_draw_23 : decode cX12_draw 23 = .ok (.iload_n 1, 1) := by decide +kernel
theorem d_X12_draw_24 : decode cX12_draw 24 = .ok (.irem, 1) := by decide +kernel
theorem d_X12_draw_25 : decode cX12_draw 25 = .ok (.ireturn, 1) := by decide +kernel
theorem d_X12_drawsOne_0 : decode cX12_drawsOne 0 = .ok (.aload_n 0, 1) := by decide +kernel
theorem d_X12_drawsOne_1 : decode cX12_drawsOne 1 = .ok (.bipush 6, 2) := by decide +kernel
theorem d_X12_drawsOne_3 : decode cX12_drawsOne 3 = .ok (.invokevirtual 379, 3) := by decide +kernel
theorem d_X12_drawsOne_6 : decode cX12_drawsOne 6 = .ok (.istore_n 1, 1) := by decide +kernel
theorem d_X12_drawsOne_7 : decode cX12_drawsOne 7 = .ok (.aload_n 0, 1) := by decide +kernel
theorem d_X12_drawsOne_8 : decode cX12_drawsOne 8 = .ok (.aload_n 0, 1) := by decide +kernel
theorem d_X12_drawsOne_9 : decode cX12_drawsOne 9 = .ok (.invokevirtual 194, 3) := by decide +kernel
theorem d_X12_drawsOne_12 : decode cX12_drawsOne 12 = .ok (.invokevirtual 379, 3) := by decide +kernel
theorem d_X12_drawsOne_15 : decode cX12_drawsOne 15 = .ok (.istore_n 2, 1) := by decide +kernel
theorem d_X12_drawsOne_16 : decode cX12_drawsOne 16 = .ok (.iload_n 1, 1) := by decide +kernel
theorem d_X12_drawsOne_17 : decode cX12_drawsOne 17 = .ok (.tableswitch 107 0 4 #[35, 35, 41, 68, 75], 35) := by decide +kernel
theorem d_X12_drawsOne_52 : decode cX12_drawsOne 52 = .ok (.aload_n 0, 1) := by decide +kernel
theorem d_X12_drawsOne_53 : decode cX12_drawsOne 53 = .ok (.iload_n 2, 1) := by decide +kernel
theorem d_X12_drawsOne_54 : decode cX12_drawsOne 54 = .ok (.invokevirtual 281, 3) := by decide +kernel
theorem d_X12_drawsOne_57 : decode cX12_drawsOne 57 = .ok (.ireturn, 1) := by decide +kernel
theorem d_X12_drawsOne_58 : decode cX12_drawsOne 58 = .ok (.aload_n 0, 1) := by decide +kernel
theorem d_X12_drawsOne_59 : decode cX12_drawsOne 59 = .ok (.iload_n 2, 1) := by decide +kernel
theorem d_X12_drawsOne_60 : decode cX12_drawsOne 60 = .ok (.invokevirtual 203, 3) := by decide +kernel
theorem d_X12_drawsOne_63 : decode cX12_drawsOne 63 = .ok (.iconst (-1), 1) := by decide +kernel
theorem d_X12_drawsOne_64 : decode cX12_drawsOne 64 = .ok (.if_icmp .eq 7, 3) := by decide +kernel
theorem d_X12_drawsOne_67 : decode cX12_drawsOne 67 = .ok (.iconst 1, 1) := by decide +kernel
theorem d_X12_drawsOne_68 : decode cX12_drawsOne 68 = .ok (.goto 4, 3) := by decide +kernel
theorem d_X12_drawsOne_71 : decode cX12_drawsOne 71 = .ok (.iconst 0, 1) := by decide +kernel
theorem d_X12_drawsOne_72 : decode cX12_drawsOne 72 = .ok (.istore_n 3, 1) := by decide +kernel
theorem d_X12_drawsOne_73 : decode cX12_drawsOne 73 = .ok (.aload_n 0, 1) := by decide +kernel
theorem d_X12_drawsOne_74 : decode cX12_drawsOne 74 = .ok (.getfield 99, 3) := by decide +kernel
theorem d_X12_drawsOne_77 : decode cX12_drawsOne 77 = .ok (.bipush 75, 2) := by decide +kernel
theorem d_X12_drawsOne_79 : decode cX12_drawsOne 79 = .ok (.iload_n 2, 1) := by decide +kernel
theorem d_X12_drawsOne_80 : decode cX12_drawsOne 80 = .ok (.iadd, 1) := by decide +kernel
theorem d_X12_drawsOne_81 : decode cX12_drawsOne 81 = .ok (.iconst (-1), 1) := by decide +kernel
theorem d_X12_drawsOne_82 : decode cX12_drawsOne 82 = .ok (.iastore, 1) := by decide +kernel
theorem d_X12_drawsOne_83 : decode cX12_drawsOne 83 = .ok (.iload_n 3, 1) := by decide +kernel
theorem d_X12_drawsOne_84 : decode cX12_drawsOne 84 = .ok (.ireturn, 1) := by decide +kernel
theorem d_X12_drawsOne_85 : decode cX12_drawsOne 85 = .ok (.aload_n 0, 1) := by decide +kernel
theorem d_X12_drawsOne_86 : decode cX12_drawsOne 86 = .ok (.iload_n 2, 1) := by decide +kernel
theorem d_X12_drawsOne_87 : decode cX12_drawsOne 87 = .ok (.invokevirtual 294, 3) := by decide +kernel
theorem d_X12_drawsOne_90 : decode cX12_drawsOne 90 = .ok (.iconst 1, 1) := by decide +kernel
theorem d_X12_drawsOne_91 : decode cX12_drawsOne 91 = .ok (.ireturn, 1) := by decide +kernel
theorem d_X12_drawsOne_92 : decode cX12_drawsOne 92 = .ok (.aload_n 0, 1) := by decide +kernel
theorem d_X12_drawsOne_93 : decode cX12_drawsOne 93 = .ok (.aload_n 0, 1) := by decide +kernel
theorem d_X12_drawsOne_94 : decode cX12_drawsOne 94 = .ok (.invokevirtual 197, 3) := by decide +kernel
theorem d_X12_drawsOne_97 : decode cX12_drawsOne 97 = .ok (.invokevirtual 379, 3) := by decide +kernel
theorem d_X12_drawsOne_100 : decode cX12_drawsOne 100 = .ok (.istore_n 3, 1) := by decide +kernel
theorem d_X12_drawsOne_101 : decode cX12_drawsOne 101 = .ok (.aload_n 0, 1) := by decide +kernel
theorem d_X12_drawsOne_102 : decode cX12_drawsOne 102 = .ok (.iload_n 2, 1) := by decide +kernel
theorem d_X12_drawsOne_103 : decode cX12_drawsOne 103 = .ok (.iload_n 3, 1) := by decide +kernel
theorem d_X12_drawsOne_104 : decode cX12_drawsOne 104 = .ok (.invokevirtual 242, 3) := by decide +kernel
theorem d_X12_drawsOne_107 : decode cX12_drawsOne 107 = .ok (.ifCond .eq 5, 3) := by decide +kernel
theorem d_X12_drawsOne_110 : decode cX12_drawsOne 110 = .ok (.iconst 0, 1) := by decide +kernel
theorem d_X12_drawsOne_111 : decode cX12_drawsOne 111 = .ok (.ireturn, 1) := by decide +kernel
theorem d_X12_drawsOne_112 : decode cX12_drawsOne 112 = .ok (.aload_n 0, 1) := by decide +kernel
theorem d_X12_drawsOne_113 : decode cX12_drawsOne 113 = .ok (.getfield 99, 3) := by decide +kernel
theorem d_X12_drawsOne_116 : decode cX12_drawsOne 116 = .ok (.bipush 75, 2) := by decide +kernel
theorem d_X12_drawsOne_118 : decode cX12_drawsOne 118 = .ok (.iload_n 2, 1) := by decide +kernel
theorem d_X12_drawsOne_119 : decode cX12_drawsOne 119 = .ok (.iadd, 1) := by decide +kernel
theorem d_X12_drawsOne_120 : decode cX12_drawsOne 120 = .ok (.iload_n 3, 1) := by decide +kernel
theorem d_X12_drawsOne_121 : decode cX12_drawsOne 121 = .ok (.iastore, 1) := by decide +kernel
theorem d_X12_drawsOne_122 : decode cX12_drawsOne 122 = .ok (.iconst 1, 1) := by decide +kernel
theorem d_X12_drawsOne_123 : decode cX12_drawsOne 123 = .ok (.ireturn, 1) := by decide +kernel
theorem d_X12_drawsOne_124 : decode cX12_drawsOne 124 = .ok (.aload_n 0, 1) := by decide +kernel
theorem d_X12_drawsOne_125 : decode cX12_drawsOne 125 = .ok (.iload_n 2, 1) := by decide +kernel
theorem d_X12_drawsOne_126 : decode cX12_drawsOne 126 = .ok (.aload_n 0, 1) := by decide +kernel
theorem d_X12_drawsOne_127 : decode cX12_drawsOne 127 = .ok (.aload_n 0, 1) := by decide +kernel
theorem d_X12_drawsOne_128 : decode cX12_drawsOne 128 = .ok (.invokevirtual 197, 3) := by decide +kernel
theorem d_X12_drawsOne_131 : decode cX12_drawsOne 131 = .ok (.invokevirtual 379, 3) := by decide +kernel
theorem d_X12_drawsOne_134 : decode cX12_drawsOne 134 = .ok (.invokevirtual 287, 3) := by decide +kernel
theorem d_X12_drawsOne_137 : decode cX12_drawsOne 137 = .ok (.istore_n 3, 1) := by decide +kernel
theorem d_X12_drawsOne_138 : decode cX12_drawsOne 138 = .ok (.iload_n 3, 1) := by decide +kernel
theorem d_X12_drawsOne_139 : decode cX12_drawsOne 139 = .ok (.iconst (-1), 1) := by decide +kernel
theorem d_X12_drawsOne_140 : decode cX12_drawsOne 140 = .ok (.if_icmp .ne 5, 3) := by decide +kernel
theorem d_X12_drawsOne_143 : decode cX12_drawsOne 143 = .ok (.iconst 0, 1) := by decide +kernel
theorem d_X12_drawsOne_144 : decode cX12_drawsOne 144 = .ok (.ireturn, 1) := by decide +kernel
theorem d_X12_drawsOne_145 : decode cX12_drawsOne 145 = .ok (.aload_n 0, 1) := by decide +kernel
theorem d_X12_drawsOne_146 : decode cX12_drawsOne 146 = .ok (.iload_n 2, 1) := by decide +kernel
theorem d_X12_drawsOne_147 : decode cX12_drawsOne 147 = .ok (.iload_n 3, 1) := by decide +kernel
theorem d_X12_drawsOne_148 : decode cX12_drawsOne 148 = .ok (.invokevirtual 290, 3) := by decide +kernel
theorem d_X12_drawsOne_151 : decode cX12_drawsOne 151 = .ok (.iconst 1, 1) := by decide +kernel
theorem d_X12_drawsOne_152 : decode cX12_drawsOne 152 = .ok (.ireturn, 1) := by decide +kernel
theorem d_X12_drawn_0 : decode cX12_drawn 0 = .ok (.aload_n 0, 1) := by decide +kernel
theorem d_X12_drawn_1 : decode cX12_drawn 1 = .ok (.iconst 0, 1) := by decide +kernel
theorem d_X12_drawn_2 : decode cX12_drawn 2 = .ok (.putfield 1, 3) := by decide +kernel
theorem d_X12_drawn_5 : decode cX12_drawn 5 = .ok (.iload_n 1, 1) := by decide +kernel
theorem d_X12_drawn_6 : decode cX12_drawn 6 = .ok (.iconst 1, 1) := by decide +kernel
theorem d_X12_drawn_7 : decode cX12_drawn 7 = .ok (.bipush 60, 2) := by decide +kernel
theorem d_X12_drawn_9 : decode cX12_drawn 9 = .ok (.invokestatic 83, 3) := by decide +kernel
theorem d_X12_drawn_12 : decode cX12_drawn 12 = .ok (.ifCond .ne 5, 3) := by decide +kernel
theorem d_X12_drawn_15 : decode cX12_drawn 15 = .ok (.iconst (-1), 1) := by decide +kernel
theorem d_X12_drawn_16 : decode cX12_drawn 16 = .ok (.ireturn, 1) := by decide +kernel
theorem d_X12_drawn_17 : decode cX12_drawn 17 = .ok (.aload_n 0, 1) := by decide +kernel
theorem d_X12_drawn_18 : decode cX12_drawn 18 = .ok (.getfield 99, 3) := by decide +kernel
theorem d_X12_drawn_21 : decode cX12_drawn 21 = .ok (.iconst 0, 1) := by decide +kernel
theorem d_X12_drawn_22 : decode cX12_drawn 22 = .ok (.aload_n 0, 1) := by decide +kernel
theorem d_X12_drawn_23 : decode cX12_drawn 23 = .ok (.getfield 111, 3) := by decide +kernel
theorem d_X12_drawn_26 : decode cX12_drawn 26 = .ok (.iconst 0, 1) := by decide +kernel
theorem d_X12_drawn_27 : decode cX12_drawn 27 = .ok (.invokestatic 184, 3) := by decide +kernel
theorem d_X12_drawn_30 : decode cX12_drawn 30 = .ok (.aload_n 0, 1) := by decide +kernel
theorem d_X12_drawn_31 : decode cX12_drawn 31 = .ok (.iload_n 2, 1) := by decide +kernel
theorem d_X12_drawn_32 : decode cX12_drawn 32 = .ok (.putfield 375, 3) := by decide +kernel
theorem d_X12_drawn_35 : decode cX12_drawn 35 = .ok (.iconst 0, 1) := by decide +kernel
theorem d_X12_drawn_36 : decode cX12_drawn 36 = .ok (.istore_n 3, 1) := by decide +kernel
theorem d_X12_drawn_37 : decode cX12_drawn 37 = .ok (.iconst 0, 1) := by decide +kernel
theorem d_X12_drawn_38 : decode cX12_drawn 38 = .ok (.istore 4, 2) := by decide +kernel
theorem d_X12_drawn_40 : decode cX12_drawn 40 = .ok (.iload 4, 2) := by decide +kernel
theorem d_X12_drawn_42 : decode cX12_drawn 42 = .ok (.iload_n 1, 1) := by decide +kernel
theorem d_X12_drawn_43 : decode cX12_drawn 43 = .ok (.if_icmp .ge 26, 3) := by decide +kernel
theorem d_X12_drawn_46 : decode cX12_drawn 46 = .ok (.aload_n 0, 1) := by decide +kernel
theorem d_X12_drawn_47 : decode cX12_drawn 47 = .ok (.invokevirtual 194, 3) := by decide +kernel
theorem d_X12_drawn_50 : decode cX12_drawn 50 = .ok (.ifCond .le 19, 3) := by decide +kernel
theorem d_X12_drawn_53 : decode cX12_drawn 53 = .ok (.aload_n 0, 1) := by decide +kernel
theorem d_X12_drawn_54 : decode cX12_drawn 54 = .ok (.invokevirtual 382, 3) := by decide +kernel
theorem d_X12_drawn_57 : decode cX12_drawn 57 = .ok (.ifCond .eq 6, 3) := by decide +kernel
theorem d_X12_drawn_60 : decode cX12_drawn 60 = .ok (.iinc 3 1, 3) := by decide +kernel
theorem d_X12_drawn_63 : decode cX12_drawn 63 = .ok (.iinc 4 1, 3) := by decide +kernel
theorem d_X12_drawn_66 : decode cX12_drawn 66 = .ok (.goto (-26), 3) := by decide +kernel
theorem d_X12_drawn_69 : decode cX12_drawn 69 = .ok (.iload_n 3, 1) := by decide +kernel
theorem d_X12_drawn_70 : decode cX12_drawn 70 = .ok (.ifCond .le 7, 3) := by decide +kernel
theorem d_X12_drawn_73 : decode cX12_drawn 73 = .ok (.aload_n 0, 1) := by decide +kernel
theorem d_X12_drawn_74 : decode cX12_drawn 74 = .ok (.invokevirtual 284, 3) := by decide +kernel
theorem d_X12_drawn_77 : decode cX12_drawn 77 = .ok (.iload_n 3, 1) := by decide +kernel
theorem d_X12_drawn_78 : decode cX12_drawn 78 = .ok (.ireturn, 1) := by decide +kernel
theorem d_X12_image_0 : decode cX12_image 0 = .ok (.aload_n 0, 1) := by decide +kernel
theorem d_X12_image_1 : decode cX12_image 1 = .ok (.iconst 0, 1) := by decide +kernel
theorem d_X12_image_2 : decode cX12_image 2 = .ok (.putfield 1, 3) := by decide +kernel
theorem d_X12_image_5 : decode cX12_image 5 = .ok (.iload_n 1, 1) := by decide +kernel
theorem d_X12_image_6 : decode cX12_image 6 = .ok (.iconst 0, 1) := by decide +kernel
theorem d_X12_image_7 : decode cX12_image 7 = .ok (.iconst 1, 1) := by decide +kernel
theorem d_X12_image_8 : decode cX12_image 8 = .ok (.invokestatic 83, 3) := by decide +kernel
theorem d_X12_image_11 : decode cX12_image 11 = .ok (.ifCond .ne 5, 3) := by decide +kernel
theorem d_X12_image_14 : decode cX12_image 14 = .ok (.iconst 0, 1) := by decide +kernel
theorem d_X12_image_15 : decode cX12_image 15 = .ok (.ireturn, 1) := by decide +kernel
theorem d_X12_image_16 : decode cX12_image 16 = .ok (.aload_n 0, 1) := by decide +kernel
theorem d_X12_image_17 : decode cX12_image 17 = .ok (.getfield 99, 3) := by decide +kernel
theorem d_X12_image_20 : decode cX12_image 20 = .ok (.iconst 0, 1) := by decide +kernel
theorem d_X12_image_21 : decode cX12_image 21 = .ok (.aload_n 0, 1) := by decide +kernel
theorem d_X12_image_22 : decode cX12_image 22 = .ok (.getfield 105, 3) := by decide +kernel
theorem d_X12_image_25 : decode cX12_image 25 = .ok (.sipush 147, 3) := by decide +kernel
theorem d_X12_image_28 : decode cX12_image 28 = .ok (.iload_n 1, 1) := by decide +kernel
theorem d_X12_image_29 : decode cX12_image 29 = .ok (.imul, 1) := by decide +kernel
theorem d_X12_image_30 : decode cX12_image 30 = .ok (.invokestatic 184, 3) := by decide +kernel
theorem d_X12_image_33 : decode cX12_image 33 = .ok (.aload_n 0, 1) := by decide +kernel
theorem d_X12_image_34 : decode cX12_image 34 = .ok (.getfield 121, 3) := by decide +kernel
theorem d_X12_image_37 : decode cX12_image 37 = .ok (.iload_n 1, 1) := by decide +kernel
theorem d_X12_image_38 : decode cX12_image 38 = .ok (.iconst 1, 1) := by decide +kernel
theorem d_X12_image_39 : decode cX12_image 39 = .ok (.bastore, 1) := by decide +kernel
theorem d_X12_image_40 : decode cX12_image 40 = .ok (.iconst 1, 1) := by decide +kernel
theorem d_X12_image_41 : decode cX12_image 41 = .ok (.ireturn, 1) := by decide +kernel
theorem d_X12_restore_0 : decode cX12_restore 0 = .ok (.aload_n 0, 1) := by decide +kernel
theorem d_X12_restore_1 : decode cX12_restore 1 = .ok (.iconst 0, 1) := by decide +kernel
theorem d_X12_restore_2 : decode cX12_restore 2 = .ok (.putfield 1, 3) := by decide +kernel
theorem d_X12_restore_5 : decode cX12_restore 5 = .ok (.iload_n 1, 1) := by decide +kernel
theorem d_X12_restore_6 : decode cX12_restore 6 = .ok (.iconst 0, 1) := by decide +kernel
theorem d_X12_restore_7 : decode cX12_restore 7 = .ok (.iconst 1, 1) := by decide +kernel
theorem d_X12_restore_8 : decode cX12_restore 8 = .ok (.invokestatic 83, 3) := by decide +kernel
theorem d_X12_restore_11 : decode cX12_restore 11 = .ok (.ifCond .eq 12, 3) := by decide +kernel
theorem d_X12_restore_14 : decode cX12_restore 14 = .ok (.aload_n 0, 1) := by decide +kernel
theorem d_X12_restore_15 : decode cX12_restore 15 = .ok (.getfield 121, 3) := by decide +kernel
theorem d_X12_restore_18 : decode cX12_restore 18 = .ok (.iload_n 1, 1) := by decide +kernel
theorem d_X12_restore_19 : decode cX12_restore 19 = .ok (.baload, 1) := by decide +kernel
theorem d_X12_restore_20 : decode cX12_restore 20 = .ok (.ifCond .ne 5, 3) := by decide +kernel
theorem d_X12_restore_23 : decode cX12_restore 23 = .ok (.iconst 0, 1) := by decide +kernel
theorem d_X12_restore_24 : decode cX12_restore 24 = .ok (.ireturn, 1) := by decide +kernel
theorem d_X12_restore_25 : decode cX12_restore 25 = .ok (.aload_n 0, 1) := by decide +kernel
theorem d_X12_restore_26 : decode cX12_restore 26 = .ok (.getfield 105, 3) := by decide +kernel
theorem d_X12_restore_29 : decode cX12_restore 29 = .ok (.sipush 147, 3) := by decide +kernel
theorem d_X12_restore_32 : decode cX12_restore 32 = .ok (.iload_n 1, 1) := by decide +kernel
theorem d_X12_restore_33 : decode cX12_restore 33 = .ok (.imul, 1) := by decide +kernel
theorem d_X12_restore_34 : decode cX12_restore 34 = .ok (.aload_n 0, 1) := by decide +kernel
theorem d_X12_restore_35 : decode cX12_restore 35 = .ok (.getfield 99, 3) := by decide +kernel
theorem d_X12_restore_38 : decode cX12_restore 38 = .ok (.iconst 0, 1) := by decide +kernel
theorem d_X12_restore_39 : decode cX12_restore 39 = .ok (.invokestatic 184, 3) := by decide +kernel
theorem d_X12_restore_42 : decode cX12_restore 42 = .ok (.aload_n 0, 1) := by decide +kernel
theorem d_X12_restore_43 : decode cX12_restore 43 = .ok (.iconst 0, 1) := by decide +kernel
theorem d_X12_restore_44 : decode cX12_restore 44 = .ok (.putfield 188, 3) := by decide +kernel
theorem d_X12_restore_47 : decode cX12_restore 47 = .ok (.iconst 1, 1) := by decide +kernel
theorem d_X12_restore_48 : decode cX12_restore 48 = .ok (.ireturn, 1) := by decide +kernel
