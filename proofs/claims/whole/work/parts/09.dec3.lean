-- needs: 08.links
theorem d_X12_nextTo_25 : decode cX12_nextTo 25 = .ok (.iinc 3 1, 3) := by decide +kernel
theorem d_X12_nextTo_28 : decode cX12_nextTo 28 = .ok (.goto (-24), 3) := by decide +kernel
theorem d_X12_nextTo_31 : decode cX12_nextTo 31 = .ok (.iload_n 2, 1) := by decide +kernel
theorem d_X12_nextTo_32 : decode cX12_nextTo 32 = .ok (.ireturn, 1) := by decide +kernel
theorem d_X12_laysCrowd_0 : decode cX12_laysCrowd 0 = .ok (.iconst 1, 1) := by decide +kernel
theorem d_X12_laysCrowd_1 : decode cX12_laysCrowd 1 = .ok (.iload_n 1, 1) := by decide +kernel
theorem d_X12_laysCrowd_2 : decode cX12_laysCrowd 2 = .ok (.ishl, 1) := by decide +kernel
theorem d_X12_laysCrowd_3 : decode cX12_laysCrowd 3 = .ok (.istore_n 2, 1) := by decide +kernel
theorem d_X12_laysCrowd_4 : decode cX12_laysCrowd 4 = .ok (.iconst 0, 1) := by decide +kernel
theorem d_X12_laysCrowd_5 : decode cX12_laysCrowd 5 = .ok (.istore_n 3, 1) := by decide +kernel
theorem d_X12_laysCrowd_6 : decode cX12_laysCrowd 6 = .ok (.iload_n 2, 1) := by decide +kernel
theorem d_X12_laysCrowd_7 : decode cX12_laysCrowd 7 = .ok (.iload_n 3, 1) := by decide +kernel
theorem d_X12_laysCrowd_8 : decode cX12_laysCrowd 8 = .ok (.if_icmp .eq 44, 3) := by decide +kernel
theorem d_X12_laysCrowd_11 : decode cX12_laysCrowd 11 = .ok (.iload_n 2, 1) := by decide +kernel
theorem d_X12_laysCrowd_12 : decode cX12_laysCrowd 12 = .ok (.istore_n 3, 1) := by decide +kernel
theorem d_X12_laysCrowd_13 : decode cX12_laysCrowd 13 = .ok (.iconst 0, 1) := by decide +kernel
theorem d_X12_laysCrowd_14 : decode cX12_laysCrowd 14 = .ok (.istore 4, 2) := by decide +kernel
theorem d_X12_laysCrowd_16 : decode cX12_laysCrowd 16 = .ok (.iload 4, 2) := by decide +kernel
theorem d_X12_laysCrowd_18 : decode cX12_laysCrowd 18 = .ok (.aload_n 0, 1) := by decide +kernel
theorem d_X12_laysCrowd_19 : decode cX12_laysCrowd 19 = .ok (.invokevirtual 194, 3) := by decide +kernel
theorem d_X12_laysCrowd_22 : decode cX12_laysCrowd 22 = .ok (.if_icmp .ge 27, 3) := by decide +kernel
theorem d_X12_laysCrowd_25 : decode cX12_laysCrowd 25 = .ok (.iload_n 3, 1) := by decide +kernel
theorem d_X12_laysCrowd_26 : decode cX12_laysCrowd 26 = .ok (.iload 4, 2) := by decide +kernel
theorem d_X12_laysCrowd_28 : decode cX12_laysCrowd 28 = .ok (.invokestatic 206, 3) := by decide +kernel
theorem d_X12_laysCrowd_31 : decode cX12_laysCrowd 31 = .ok (.ifCond .eq 12, 3) := by decide +kernel
theorem d_X12_laysCrowd_34 : decode cX12_laysCrowd 34 = .ok (.iload_n 2, 1) := by decide +kernel
theorem d_X12_laysCrowd_35 : decode cX12_laysCrowd 35 = .ok (.aload_n 0, 1) := by decide +kernel
theorem d_X12_laysCrowd_36 : decode cX12_laysCrowd 36 = .ok (.iload 4, 2) := by decide +kernel
theorem d_X12_laysCrowd_38 : decode cX12_laysCrowd 38 = .ok (.invokevirtual 251, 3) := by decide +kernel
theorem d_X12_laysCrowd_41 : decode cX12_laysCrowd 41 = .ok (.ior, 1) := by decide +kernel
theorem d_X12_laysCrowd_42 : decode cX12_laysCrowd 42 = .ok (.istore_n 2, 1) := by decide +kernel
theorem d_X12_laysCrowd_43 : decode cX12_laysCrowd 43 = .ok (.iinc 4 1, 3) := by decide +kernel
theorem d_X12_laysCrowd_46 : decode cX12_laysCrowd 46 = .ok (.goto (-30), 3) := by decide +kernel
theorem d_X12_laysCrowd_49 : decode cX12_laysCrowd 49 = .ok (.goto (-43), 3) := by decide +kernel
theorem d_X12_laysCrowd_52 : decode cX12_laysCrowd 52 = .ok (.aload_n 0, 1) := by decide +kernel
theorem d_X12_laysCrowd_53 : decode cX12_laysCrowd 53 = .ok (.iconst 0, 1) := by decide +kernel
theorem d_X12_laysCrowd_54 : decode cX12_laysCrowd 54 = .ok (.putfield 260, 3) := by decide +kernel
theorem d_X12_laysCrowd_57 : decode cX12_laysCrowd 57 = .ok (.iconst 0, 1) := by decide +kernel
theorem d_X12_laysCrowd_58 : decode cX12_laysCrowd 58 = .ok (.istore 4, 2) := by decide +kernel
theorem d_X12_laysCrowd_60 : decode cX12_laysCrowd 60 = .ok (.iload 4, 2) := by decide +kernel
theorem d_X12_laysCrowd_62 : decode cX12_laysCrowd 62 = .ok (.aload_n 0, 1) := by decide +kernel
theorem d_X12_laysCrowd_63 : decode cX12_laysCrowd 63 = .ok (.invokevirtual 194, 3) := by decide +kernel
theorem d_X12_laysCrowd_66 : decode cX12_laysCrowd 66 = .ok (.if_icmp .ge 33, 3) := by decide +kernel
theorem d_X12_laysCrowd_69 : decode cX12_laysCrowd 69 = .ok (.iload_n 2, 1) := by decide +kernel
theorem d_X12_laysCrowd_70 : decode cX12_laysCrowd 70 = .ok (.iload 4, 2) := by decide +kernel
theorem d_X12_laysCrowd_72 : decode cX12_laysCrowd 72 = .ok (.invokestatic 206, 3) := by decide +kernel
theorem d_X12_laysCrowd_75 : decode cX12_laysCrowd 75 = .ok (.ifCond .eq 18, 3) := by decide +kernel
theorem d_X12_laysCrowd_78 : decode cX12_laysCrowd 78 = .ok (.aload_n 0, 1) := by decide +kernel
theorem d_X12_laysCrowd_79 : decode cX12_laysCrowd 79 = .ok (.dup, 1) := by decide +kernel
theorem d_X12_laysCrowd_80 : decode cX12_laysCrowd 80 = .ok (.getfield 260, 3) := by decide +kernel
theorem d_X12_laysCrowd_83 : decode cX12_laysCrowd 83 = .ok (.aload_n 0, 1) := by decide +kernel
theorem d_X12_laysCrowd_84 : decode cX12_laysCrowd 84 = .ok (.iload 4, 2) := by decide +kernel
theorem d_X12_laysCrowd_86 : decode cX12_laysCrowd 86 = .ok (.invokevirtual 209, 3) := by decide +kernel
theorem d_X12_laysCrowd_89 : decode cX12_laysCrowd 89 = .ok (.ior, 1) := by decide +kernel
theorem d_X12_laysCrowd_90 : decode cX12_laysCrowd 90 = .ok (.putfield 260, 3) := by decide +kernel
theorem d_X12_laysCrowd_93 : decode cX12_laysCrowd 93 = .ok (.iinc 4 1, 3) := by decide +kernel
theorem d_X12_laysCrowd_96 : decode cX12_laysCrowd 96 = .ok (.goto (-36), 3) := by decide +kernel
theorem d_X12_laysCrowd_99 : decode cX12_laysCrowd 99 = .ok (.iconst 0, 1) := by decide +kernel
theorem d_X12_laysCrowd_100 : decode cX12_laysCrowd 100 = .ok (.ireturn, 1) := by decide +kernel
theorem d_X12_laysChain_0 : decode cX12_laysChain 0 = .ok (.aload_n 0, 1) := by decide +kernel
theorem d_X12_laysChain_1 : decode cX12_laysChain 1 = .ok (.invokevirtual 245, 3) := by decide +kernel
theorem d_X12_laysChain_4 : decode cX12_laysChain 4 = .ok (.iconst 0, 1) := by decide +kernel
theorem d_X12_laysChain_5 : decode cX12_laysChain 5 = .ok (.istore_n 2, 1) := by decide +kernel
theorem d_X12_laysChain_6 : decode cX12_laysChain 6 = .ok (.iload_n 2, 1) := by decide +kernel
theorem d_X12_laysChain_7 : decode cX12_laysChain 7 = .ok (.aload_n 0, 1) := by decide +kernel
theorem d_X12_laysChain_8 : decode cX12_laysChain 8 = .ok (.invokevirtual 194, 3) := by decide +kernel
theorem d_X12_laysChain_11 : decode cX12_laysChain 11 = .ok (.if_icmp .ge 39, 3) := by decide +kernel
theorem d_X12_laysChain_14 : decode cX12_laysChain 14 = .ok (.aload_n 0, 1) := by decide +kernel
theorem d_X12_laysChain_15 : decode cX12_laysChain 15 = .ok (.getfield 125, 3) := by decide +kernel
theorem d_X12_laysChain_18 : decode cX12_laysChain 18 = .ok (.iload_n 2, 1) := by decide +kernel
theorem d_X12_laysChain_19 : decode cX12_laysChain 19 = .ok (.aload_n 0, 1) := by decide +kernel
theorem d_X12_laysChain_20 : decode cX12_laysChain 20 = .ok (.iload_n 2, 1) := by decide +kernel
theorem d_X12_laysChain_21 : decode cX12_laysChain 21 = .ok (.invokevirtual 200, 3) := by decide +kernel
theorem d_X12_laysChain_24 : decode cX12_laysChain 24 = .ok (.ifCond .ne 16, 3) := by decide +kernel
theorem d_X12_laysChain_27 : decode cX12_laysChain 27 = .ok (.aload_n 0, 1) := by decide +kernel
theorem d_X12_laysChain_28 : decode cX12_laysChain 28 = .ok (.iload_n 2, 1) := by decide +kernel
theorem d_X12_laysChain_29 : decode cX12_laysChain 29 = .ok (.invokevirtual 248, 3) := by decide +kernel
theorem d_X12_laysChain_32 : decode cX12_laysChain 32 = .ok (.iconst (-1), 1) := by decide +kernel
theorem d_X12_laysChain_33 : decode cX12_laysChain 33 = .ok (.if_icmp .eq 7, 3) := by decide +kernel
theorem d_X12_laysChain_36 : decode cX12_laysChain 36 = .ok (.iconst 1, 1) := by decide +kernel
theorem d_X12_laysChain_37 : decode cX12_laysChain 37 = .ok (.goto 6, 3) := by decide +kernel
theorem d_X12_laysChain_40 : decode cX12_laysChain 40 = .ok (.sipush 1000, 3) := by decide +kernel
theorem d_X12_laysChain_43 : decode cX12_laysChain 43 = .ok (.iastore, 1) := by decide +kernel
theorem d_X12_laysChain_44 : decode cX12_laysChain 44 = .ok (.iinc 2 1, 3) := by decide +kernel
theorem d_X12_laysChain_47 : decode cX12_laysChain 47 = .ok (.goto (-41), 3) := by decide +kernel
theorem d_X12_laysChain_50 : decode cX12_laysChain 50 = .ok (.iconst 0, 1) := by decide +kernel
theorem d_X12_laysChain_51 : decode cX12_laysChain 51 = .ok (.istore_n 2, 1) := by decide +kernel
theorem d_X12_laysChain_52 : decode cX12_laysChain 52 = .ok (.iload_n 2, 1) := by decide +kernel
theorem d_X12_laysChain_53 : decode cX12_laysChain 53 = .ok (.aload_n 0, 1) := by decide +kernel
theorem d_X12_laysChain_54 : decode cX12_laysChain 54 = .ok (.invokevirtual 194, 3) := by decide +kernel
theorem d_X12_laysChain_57 : decode cX12_laysChain 57 = .ok (.if_icmp .ge 97, 3) := by decide +kernel
theorem d_X12_laysChain_60 : decode cX12_laysChain 60 = .ok (.iconst 0, 1) := by decide +kernel
theorem d_X12_laysChain_61 : decode cX12_laysChain 61 = .ok (.istore_n 3, 1) := by decide +kernel
theorem d_X12_laysChain_62 : decode cX12_laysChain 62 = .ok (.iload_n 3, 1) := by decide +kernel
theorem d_X12_laysChain_63 : decode cX12_laysChain 63 = .ok (.aload_n 0, 1) := by decide +kernel
theorem d_X12_laysChain_64 : decode cX12_laysChain 64 = .ok (.invokevirtual 194, 3) := by decide +kernel
theorem d_X12_laysChain_67 : decode cX12_laysChain 67 = .ok (.if_icmp .ge 81, 3) := by decide +kernel
theorem d_X12_laysChain_70 : decode cX12_laysChain 70 = .ok (.iconst 0, 1) := by decide +kernel
theorem d_X12_laysChain_71 : decode cX12_laysChain 71 = .ok (.istore 4, 2) := by decide +kernel
theorem d_X12_laysChain_73 : decode cX12_laysChain 73 = .ok (.iload 4, 2) := by decide +kernel
theorem d_X12_laysChain_75 : decode cX12_laysChain 75 = .ok (.aload_n 0, 1) := by decide +kernel
theorem d_X12_laysChain_76 : decode cX12_laysChain 76 = .ok (.invokevirtual 194, 3) := by decide +kernel
theorem d_X12_laysChain_79 : decode cX12_laysChain 79 = .ok (.if_icmp .ge 63, 3) := by decide +kernel
theorem d_X12_laysChain_82 : decode cX12_laysChain 82 = .ok (.aload_n 0, 1) := by decide +kernel
theorem d_X12_laysChain_83 : decode cX12_laysChain 83 = .ok (.iload_n 3, 1) := by decide +kernel
theorem d_X12_laysChain_84 : decode cX12_laysChain 84 = .ok (.invokevirtual 200, 3) := by decide +kernel
theorem d_X12_laysChain_87 : decode cX12_laysChain 87 = .ok (.ifCond .ne 49, 3) := by decide +kernel
theorem d_X12_laysChain_90 : decode cX12_laysChain 90 = .ok (.aload_n 0, 1) := by decide +kernel
theorem d_X12_laysChain_91 : decode cX12_laysChain 91 = .ok (.iload_n 3, 1) := by decide +kernel
theorem d_X12_laysChain_92 : decode cX12_laysChain 92 = .ok (.invokevirtual 251, 3) := by decide +kernel
theorem d_X12_laysChain_95 : decode cX12_laysChain 95 = .ok (.iload 4, 2) := by decide +kernel
theorem d_X12_laysChain_97 : decode cX12_laysChain 97 = .ok (.invokestatic 206, 3) := by decide +kernel
theorem d_X12_laysChain_100 : decode cX12_laysChain 100 = .ok (.ifCond .eq 36, 3) := by decide +kernel
theorem d_X12_laysChain_103 : decode cX12_laysChain 103 = .ok (.aload_n 0, 1) := by decide +kernel
theorem d_X12_laysChain_104 : decode cX12_laysChain 104 = .ok (.getfield 125, 3) := by decide +kernel
theorem d_X12_laysChain_107 : decode cX12_laysChain 107 = .ok (.iload 4, 2) := by decide +kernel
theorem d_X12_laysChain_109 : decode cX12_laysChain 109 = .ok (.iaload, 1) := by decide +kernel
theorem d_X12_laysChain_110 : decode cX12_laysChain 110 = .ok (.iconst 1, 1) := by decide +kernel
theorem d_X12_laysChain_111 : decode cX12_laysChain 111 = .ok (.iadd, 1) := by decide +kernel
theorem d_X12_laysChain_112 : decode cX12_laysChain 112 = .ok (.aload_n 0, 1) := by decide +kernel
theorem d_X12_laysChain_113 : decode cX12_laysChain 113 = .ok (.getfield 125, 3) := by decide +kernel
theorem d_X12_laysChain_116 : decode cX12_laysChain 116 = .ok (.iload_n 3, 1) := by decide +kernel
theorem d_X12_laysChain_117 : decode cX12_laysChain 117 = .ok (.iaload, 1) := by decide +kernel
theorem d_X12_laysChain_118 : decode cX12_laysChain 118 = .ok (.if_icmp .ge 18, 3) := by decide +kernel
theorem d_X12_laysChain_121 : decode cX12_laysChain 121 = .ok (.aload_n 0, 1) := by decide +kernel
theorem d_X12_laysChain_122 : decode cX12_laysChain 122 = .ok (.getfield 125, 3) := by decide +kernel
theorem d_X12_laysChain_125 : decode cX12_laysChain 125 = .ok (.iload_n 3, 1) := by decide +kernel
theorem d_X12_laysChain_126 : decode cX12_laysChain 126 = .ok (.aload_n 0, 1) := by decide +kernel
theorem d_X12_laysChain_127 : decode cX12_laysChain 127 = .ok (.getfield 125, 3) := by decide +kernel
theorem d_X12_laysChain_130 : decode cX12_laysChain 130 = .ok (.iload 4, 2) := by decide +kernel
theorem d_X12_laysChain_132 : decode cX12_laysChain 132 = .ok (.iaload, 1) := by decide +kernel
theorem d_X12_laysChain_133 : decode cX12_laysChain 133 = .ok (.iconst 1, 1) := by decide +kernel
theorem d_X12_laysChain_134 : decode cX12_laysChain 134 = .ok (.iadd, 1) := by decide +kernel
theorem d_X12_laysChain_135 : decode cX12_laysChain 135 = .ok (.iastore, 1) := by decide +kernel
theorem d_X12_laysChain_136 : decode cX12_laysChain 136 = .ok (.iinc 4 1, 3) := by decide +kernel
theorem d_X12_laysChain_139 : decode cX12_laysChain 139 = .ok (.goto (-66), 3) := by decide +kernel
theorem d_X12_laysChain_142 : decode cX12_laysChain 142 = .ok (.iinc 3 1, 3) := by decide +kernel
theorem d_X12_laysChain_145 : decode cX12_laysChain 145 = .ok (.goto (-83), 3) := by decide +kernel
theorem d_X12_laysChain_148 : decode cX12_laysChain 148 = .ok (.iinc 2 1, 3) := by decide +kernel
theorem d_X12_laysChain_151 : decode cX12_laysChain 151 = .ok (.goto (-99), 3) := by decide +kernel
theorem d_X12_laysChain_154 : decode cX12_laysChain 154 = .ok (.aload_n 0, 1) := by decide +kernel
theorem d_X12_laysChain_155 : decode cX12_laysChain 155 = .ok (.getfield 125, 3) := by decide +kernel
theorem d_X12_laysChain_158 : decode cX12_laysChain 158 = .ok (.iload_n 1, 1) := by decide +kernel
theorem d_X12_laysChain_159 : decode cX12_laysChain 159 = .ok (.iaload, 1) := by decide +kernel
theorem d_X12_laysChain_160 : decode cX12_laysChain 160 = .ok (.sipush 1000, 3) := by decide +kernel
theorem d_X12_laysChain_163 : decode cX12_laysChain 163 = .ok (.if_icmp .ne 9, 3) := by decide +kernel
theorem d_X12_laysChain_166 : decode cX12_laysChain 166 = .ok (.aload_n 0, 1) := by decide +kernel
theorem d_X12_laysChain_167 : decode cX12_laysChain 167 = .ok (.iload_n 1, 1) := by decide +kernel
theorem d_X12_laysChain_168 : decode cX12_laysChain 168 = .ok (.invokevirtual 254, 3) := by decide +kernel
theorem d_X12_laysChain_171 : decode cX12_laysChain 171 = .ok (.ireturn, 1) := by decide +kernel
theorem d_X12_laysChain_172 : decode cX12_laysChain 172 = .ok (.aload_n 0, 1) := by decide +kernel
theorem d_X12_laysChain_173 : decode cX12_laysChain 173 = .ok (.iconst 0, 1) := by decide +kernel
theorem d_X12_laysChain_174 : decode cX12_laysChain 174 = .ok (.putfield 257, 3) := by decide +kernel
theorem d_X12_laysChain_177 : decode cX12_laysChain 177 = .ok (.iload_n 1, 1) := by decide +kernel
theorem d_X12_laysChain_178 : decode cX12_laysChain 178 = .ok (.istore_n 2, 1) := by decide +kernel
theorem d_X12_laysChain_179 : decode cX12_laysChain 179 = .ok (.aload_n 0, 1) := by decide +kernel
theorem d_X12_laysChain_180 : decode cX12_laysChain 180 = .ok (.getfield 125, 3) := by decide +kernel
theorem d_X12_laysChain_183 : decode cX12_laysChain 183 = .ok (.iload_n 2, 1) := by decide +kernel
theorem d_X12_laysChain_184 : decode cX12_laysChain 184 = .ok (.iaload, 1) := by decide +kernel
theorem d_X12_laysChain_185 : decode cX12_laysChain 185 = .ok (.iconst 1, 1) := by decide +kernel
theorem d_X12_laysChain_186 : decode cX12_laysChain 186 = .ok (.if_icmp .le 79, 3) := by decide +kernel
theorem d_X12_laysChain_189 : decode cX12_laysChain 189 = .ok (.iconst 0, 1) := by decide +kernel
theorem d_X12_laysChain_190 : decode cX12_laysChain 190 = .ok (.istore_n 3, 1) := by decide +kernel
theorem d_X12_laysChain_191 : decode cX12_laysChain 191 = .ok (.aload_n 0, 1) := by decide +kernel
theorem d_X12_laysChain_192 : decode cX12_laysChain 192 = .ok (.iload_n 2, 1) := by decide +kernel
theorem d_X12_laysChain_193 : decode cX12_laysChain 193 = .ok (.invokevirtual 251, 3) := by decide +kernel
theorem d_X12_laysChain_196 : decode cX12_laysChain 196 = .ok (.iload_n 3, 1) := by decide +kernel
theorem d_X12_laysChain_197 : decode cX12_laysChain 197 = .ok (.invokestatic 206, 3) := by decide +kernel
theorem d_X12_laysChain_200 : decode cX12_laysChain 200 = .ok (.ifCond .eq 20, 3) := by decide +kernel
theorem d_X12_laysChain_203 : decode cX12_laysChain 203 = .ok (.aload_n 0, 1) := by decide +kernel
theorem d_X12_laysChain_204 : decode cX12_laysChain 204 = .ok (.getfield 125, 3) := by decide +kernel
theorem d_X12_laysChain_207 : decode cX12_laysChain 207 = .ok (.iload_n 3, 1) := by decide +kernel
theorem d_X12_laysChain_208 : decode cX12_laysChain 208 = .ok (.iaload, 1) := by decide +kernel
theorem d_X12_laysChain_209 : decode cX12_laysChain 209 = .ok (.iconst 1, 1) := by decide +kernel
theorem d_X12_laysChain_210 : decode cX12_laysChain 210 = .ok (.iadd, 1) := by decide +kernel
theorem d_X12_laysChain_211 : decode cX12_laysChain 211 = .ok (.aload_n 0, 1) := by decide +kernel
theorem d_X12_laysChain_212 : decode cX12_laysChain 212 = .ok (.getfield 125, 3) := by decide +kernel
theorem d_X12_laysChain_215 : decode cX12_laysChain 215 = .ok (.iload_n 2, 1) := by decide +kernel
theorem d_X12_laysChain_216 : decode cX12_laysChain 216 = .ok (.iaload, 1) := by decide +kernel
theorem d_X12_laysChain_217 : decode cX12_laysChain 217 = .ok (.if_icmp .eq 9, 3) := by decide +kernel
theorem d_X12_laysChain_220 : decode cX12_laysChain 220 = .ok (.iinc 3 1, 3) := by decide +kernel
theorem d_X12_laysChain_223 : decode cX12_laysChain 223 = .ok (.goto (-32), 3) := by decide +kernel
theorem d_X12_laysChain_226 : decode cX12_laysChain 226 = .ok (.aload_n 0, 1) := by decide +kernel
theorem d_X12_laysChain_227 : decode cX12_laysChain 227 = .ok (.getfield 131, 3) := by decide +kernel
theorem d_X12_laysChain_230 : decode cX12_laysChain 230 = .ok (.aload_n 0, 1) := by decide +kernel
theorem d_X12_laysChain_231 : decode cX12_laysChain 231 = .ok (.getfield 257, 3) := by decide +kernel
theorem d_X12_laysChain_234 : decode cX12_laysChain 234 = .ok (.iload_n 2, 1) := by decide +kernel
theorem d_X12_laysChain_235 : decode cX12_laysChain 235 = .ok (.iastore, 1) := by decide +kernel
theorem d_X12_laysChain_236 : decode cX12_laysChain 236 = .ok (.aload_n 0, 1) := by decide +kernel
theorem d_X12_laysChain_237 : decode cX12_laysChain 237 = .ok (.getfield 134, 3) := by decide +kernel
theorem d_X12_laysChain_240 : decode cX12_laysChain 240 = .ok (.aload_n 0, 1) := by decide +kernel
theorem d_X12_laysChain_241 : decode cX12_laysChain 241 = .ok (.getfield 257, 3) := by decide +kernel
theorem d_X12_laysChain_244 : decode cX12_laysChain 244 = .ok (.aload_n 0, 1) := by decide +kernel
theorem d_X12_laysChain_245 : decode cX12_laysChain 245 = .ok (.iload_n 3, 1) := by decide +kernel
theorem d_X12_laysChain_246 : decode cX12_laysChain 246 = .ok (.invokevirtual 203, 3) := by decide +kernel
theorem d_X12_laysChain_249 : decode cX12_laysChain 249 = .ok (.iastore, 1) := by decide +kernel
theorem d_X12_laysChain_250 : decode cX12_laysChain 250 = .ok (.aload_n 0, 1) := by decide +kernel
theorem d_X12_laysChain_251 : decode cX12_laysChain 251 = .ok (.dup, 1) := by decide +kernel
theorem d_X12_laysChain_252 : decode cX12_laysChain 252 = .ok (.getfield 257, 3) := by decide +kernel
theorem d_X12_laysChain_255 : decode cX12_laysChain 255 = .ok (.iconst 1, 1) := by decide +kernel
theorem d_X12_laysChain_256 : decode cX12_laysChain 256 = .ok (.iadd, 1) := by decide +kernel
theorem d_X12_laysChain_257 : decode cX12_laysChain 257 = .ok (.putfield 257, 3) := by decide +kernel
theorem d_X12_laysChain_260 : decode cX12_laysChain 260 = .ok (.iload_n 3, 1) := by decide +kernel
theorem d_X12_laysChain_261 : decode cX12_laysChain 261 = .ok (.istore_n 2, 1) := by decide +kernel
theorem d_X12_laysChain_262 : decode cX12_laysChain 262 = .ok (.goto (-83), 3) := by decide +kernel
theorem d_X12_laysChain_265 : decode cX12_laysChain 265 = .ok (.aload_n 0, 1) := by decide +kernel
theorem d_X12_laysChain_266 : decode cX12_laysChain 266 = .ok (.getfield 131, 3) := by decide +kernel
theorem d_X12_laysChain_269 : decode cX12_laysChain 269 = .ok (.aload_n 0, 1) := by decide +kernel
theorem d_X12_laysChain_270 : decode cX12_laysChain 270 = .ok (.getfield 257, 3) := by decide +kernel
theorem d_X12_laysChain_273 : decode cX12_laysChain 273 = .ok (.iload_n 2, 1) := by decide +kernel
theorem d_X12_laysChain_274 : decode cX12_laysChain 274 = .ok (.iastore, 1) := by decide +kernel
theorem d_X12_laysChain_275 : decode cX12_laysChain 275 = .ok (.aload_n 0, 1) := by decide +kernel
theorem d_X12_laysChain_276 : decode cX12_laysChain 276 = .ok (.getfield 134, 3) := by decide +kernel
theorem d_X12_laysChain_279 : decode cX12_laysChain 279 = .ok (.aload_n 0, 1) := by decide +kernel
theorem d_X12_laysChain_280 : decode cX12_laysChain 280 = .ok (.getfield 257, 3) := by decide +kernel
theorem d_X12_laysChain_283 : decode cX12_laysChain 283 = .ok (.aload_n 0, 1) := by decide +kernel
theorem d_X12_laysChain_284 : decode cX12_laysChain 284 = .ok (.iload_n 2, 1) := by decide +kernel
theorem d_X12_laysChain_285 : decode cX12_laysChain 285 = .ok (.invokevirtual 248, 3) := by decide +kernel
theorem d_X12_laysChain_288 : decode cX12_laysChain 288 = .ok (.iastore, 1) := by decide +kernel
theorem d_X12_laysChain_289 : decode cX12_laysChain 289 = .ok (.aload_n 0, 1) := by decide +kernel
theorem d_X12_laysChain_290 : decode cX12_laysChain 290 = .ok (.dup, 1) := by decide +kernel
theorem d_X12_laysChain_291 : decode cX12_laysChain 291 = .ok (.getfield 257, 3) := by decide +kernel
theorem d_X12_laysChain_294 : decode cX12_laysChain 294 = .ok (.iconst 1, 1) := by decide +kernel
theorem d_X12_laysChain_295 : decode cX12_laysChain 295 = .ok (.iadd, 1) := by decide +kernel
theorem d_X12_laysChain_296 : decode cX12_laysChain 296 = .ok (.putfield 257, 3) := by decide +kernel
theorem d_X12_laysChain_299 : decode cX12_laysChain 299 = .ok (.aload_n 0, 1) := by decide +kernel
theorem d_X12_laysChain_300 : decode cX12_laysChain 300 = .ok (.getfield 257, 3) := by decide +kernel
theorem d_X12_laysChain_303 : decode cX12_laysChain 303 = .ok (.ireturn, 1) := by decide +kernel
theorem d_X12_tells_0 : decode cX12_tells 0 = .ok (.aload_n 0, 1) := by decide +kernel
theorem d_X12_tells_1 : decode cX12_tells 1 = .ok (.iload_n 1, 1) := by decide +kernel
theorem d_X12_tells_2 : decode cX12_tells 2 = .ok (.invokevirtual 263, 3) := by decide +kernel
theorem d_X12_tells_5 : decode cX12_tells 5 = .ok (.istore_n 2, 1) := by decide +kernel
theorem d_X12_tells_6 : decode cX12_tells 6 = .ok (.iload_n 2, 1) := by decide +kernel
theorem d_X12_tells_7 : decode cX12_tells 7 = .ok (.ifCond .ne 11, 3) := by decide +kernel
theorem d_X12_tells_10 : decode cX12_tells 10 = .ok (.aload_n 0, 1) := by decide +kernel
theorem d_X12_tells_11 : decode cX12_tells 11 = .ok (.aload_n 0, 1) := by decide +kernel
theorem d_X12_tells_12 : decode cX12_tells 12 = .ok (.getfield 260, 3) := by decide +kernel
theorem d_X12_tells_15 : decode cX12_tells 15 = .ok (.putfield 266, 3) := by decide +kernel
theorem d_X12_tells_18 : decode cX12_tells 18 = .ok (.iload_n 2, 1) := by decide +kernel
theorem d_X12_tells_19 : decode cX12_tells 19 = .ok (.ifCond .le 8, 3) := by decide +kernel
theorem d_X12_tells_22 : decode cX12_tells 22 = .ok (.aload_n 0, 1) := by decide +kernel
theorem d_X12_tells_23 : decode cX12_tells 23 = .ok (.iload_n 2, 1) := by decide +kernel
theorem d_X12_tells_24 : decode cX12_tells 24 = .ok (.putfield 269, 3) := by decide +kernel
theorem d_X12_tells_27 : decode cX12_tells 27 = .ok (.iconst 0, 1) := by decide +kernel
theorem d_X12_tells_28 : decode cX12_tells 28 = .ok (.istore_n 3, 1) := by decide +kernel
theorem d_X12_tells_29 : decode cX12_tells 29 = .ok (.iload_n 3, 1) := by decide +kernel
theorem d_X12_tells_30 : decode cX12_tells 30 = .ok (.iload_n 2, 1) := by decide +kernel
theorem d_X12_tells_31 : decode cX12_tells 31 = .ok (.if_icmp .ge 39, 3) := by decide +kernel
theorem d_X12_tells_34 : decode cX12_tells 34 = .ok (.aload_n 0, 1) := by decide +kernel
theorem d_X12_tells_35 : decode cX12_tells 35 = .ok (.getfield 137, 3) := by decide +kernel
theorem d_X12_tells_38 : decode cX12_tells 38 = .ok (.iconst 2, 1) := by decide +kernel
theorem d_X12_tells_39 : decode cX12_tells 39 = .ok (.iload_n 3, 1) := by decide +kernel
theorem d_X12_tells_40 : decode cX12_tells 40 = .ok (.imul, 1) := by decide +kernel
theorem d_X12_tells_41 : decode cX12_tells 41 = .ok (.aload_n 0, 1) := by decide +kernel
theorem d_X12_tells_42 : decode cX12_tells 42 = .ok (.getfield 131, 3) := by decide +kernel
theorem d_X12_tells_45 : decode cX12_tells 45 = .ok (.iload_n 3, 1) := by decide +kernel
theorem d_X12_tells_46 : decode cX12_tells 46 = .ok (.iaload, 1) := by decide +kernel
theorem d_X12_tells_47 : decode cX12_tells 47 = .ok (.iastore, 1) := by decide +kernel
theorem d_X12_tells_48 : decode cX12_tells 48 = .ok (.aload_n 0, 1) := by decide +kernel
theorem d_X12_tells_49 : decode cX12_tells 49 = .ok (.getfield 137, 3) := by decide +kernel
theorem d_X12_tells_52 : decode cX12_tells 52 = .ok (.iconst 2, 1) := by decide +kernel
theorem d_X12_tells_53 : decode cX12_tells 53 = .ok (.iload_n 3, 1) := by decide +kernel
theorem d_X12_tells_54 : decode cX12_tells 54 = .ok (.imul, 1) := by decide +kernel
theorem d_X12_tells_55 : decode cX12_tells 55 = .ok (.iconst 1, 1) := by decide +kernel
theorem d_X12_tells_56 : decode cX12_tells 56 = .ok (.iadd, 1) := by decide +kernel
theorem d_X12_tells_57 : decode cX12_tells 57 = .ok (.aload_n 0, 1) := by decide +kernel
theorem d_X12_tells_58 : decode cX12_tells 58 = .ok (.getfield 134, 3) := by decide +kernel
theorem d_X12_tells_61 : decode cX12_tells 61 = .ok (.iload_n 3, 1) := by decide +kernel
theorem d_X12_tells_62 : decode cX12_tells 62 = .ok (.iaload, 1) := by decide +kernel
theorem d_X12_tells_63 : decode cX12_tells 63 = .ok (.iastore, 1) := by decide +kernel
theorem d_X12_tells_64 : decode cX12_tells 64 = .ok (.iinc 3 1, 3) := by decide +kernel
theorem d_X12_tells_67 : decode cX12_tells 67 = .ok (.goto (-38), 3) := by decide +kernel
theorem d_X12_tells_70 : decode cX12_tells 70 = .ok (.iload_n 2, 1) := by decide +kernel
theorem d_X12_tells_71 : decode cX12_tells 71 = .ok (.ireturn, 1) := by decide +kernel
theorem d_X12_exchange_0 : decode cX12_exchange 0 = .ok (.iconst 0, 1) := by decide +kernel
theorem d_X12_exchange_1 : decode cX12_exchange 1 = .ok (.istore_n 1, 1) := by decide +kernel
theorem d_X12_exchange_2 : decode cX12_exchange 2 = .ok (.iload_n 1, 1) := by decide +kernel
theorem d_X12_exchange_3 : decode cX12_exchange 3 = .ok (.aload_n 0, 1) := by decide +kernel
theorem d_X12_exchange_4 : decode cX12_exchange 4 = .ok (.getfield 257, 3) := by decide +kernel
theorem d_X12_exchange_7 : decode cX12_exchange 7 = .ok (.if_icmp .ge 29, 3) := by decide +kernel
theorem d_X12_exchange_10 : decode cX12_exchange 10 = .ok (.aload_n 0, 1) := by decide +kernel
theorem d_X12_exchange_11 : decode cX12_exchange 11 = .ok (.getfield 99, 3) := by decide +kernel
theorem d_X12_exchange_14 : decode cX12_exchange 14 = .ok (.bipush 75, 2) := by decide +kernel
theorem d_X12_exchange_16 : decode cX12_exchange 16 = .ok (.aload_n 0, 1) := by decide +kernel
theorem d_X12_exchange_17 : decode cX12_exchange 17 = .ok (.getfield 131, 3) := by decide +kernel
theorem d_X12_exchange_20 : decode cX12_exchange 20 = .ok (.iload_n 1, 1) := by decide +kernel
theorem d_X12_exchange_21 : decode cX12_exchange 21 = .ok (.iaload, 1) := by decide +kernel
theorem d_X12_exchange_22 : decode cX12_exchange 22 = .ok (.iadd, 1) := by decide +kernel
theorem d_X12_exchange_23 : decode cX12_exchange 23 = .ok (.aload_n 0, 1) := by decide +kernel
theorem d_X12_exchange_24 : decode cX12_exchange 24 = .ok (.getfield 134, 3) := by decide +kernel
theorem d_X12_exchange_27 : decode cX12_exchange 27 = .ok (.iload_n 1, 1) := by decide +kernel
theorem d_X12_exchange_28 : decode cX12_exchange 28 = .ok (.iaload, 1) := by decide +kernel
theorem d_X12_exchange_29 : decode cX12_exchange 29 = .ok (.iastore, 1) := by decide +kernel
theorem d_X12_exchange_30 : decode cX12_exchange 30 = .ok (.iinc 1 1, 3) := by decide +kernel
theorem d_X12_exchange_33 : decode cX12_exchange 33 = .ok (.goto (-31), 3) := by decide +kernel
theorem d_X12_exchange_36 : decode cX12_exchange 36 = .ok (.return_, 1) := by decide +kernel
theorem d_X12_place_0 : decode cX12_place 0 = .ok (.aload_n 0, 1) := by decide +kernel
theorem d_X12_place_1 : decode cX12_place 1 = .ok (.iconst 0, 1) := by decide +kernel
theorem d_X12_place_2 : decode cX12_place 2 = .ok (.putfield 1, 3) := by decide +kernel
theorem d_X12_place_5 : decode cX12_place 5 = .ok (.aload_n 0, 1) := by decide +kernel
theorem d_X12_place_6 : decode cX12_place 6 = .ok (.iload_n 1, 1) := by decide +kernel
theorem d_X12_place_7 : decode cX12_place 7 = .ok (.invokevirtual 218, 3) := by decide +kernel
theorem d_X12_place_10 : decode cX12_place 10 = .ok (.ifCond .eq 11, 3) := by decide +kernel
theorem d_X12_place_13 : decode cX12_place 13 = .ok (.aload_n 0, 1) := by decide +kernel
theorem d_X12_place_14 : decode cX12_place 14 = .ok (.iload_n 1, 1) := by decide +kernel
theorem d_X12_place_15 : decode cX12_place 15 = .ok (.invokevirtual 272, 3) := by decide +kernel
theorem d_X12_place_18 : decode cX12_place 18 = .ok (.ifCond .ne 5, 3) := by decide +kernel
theorem d_X12_place_21 : decode cX12_place 21 = .ok (.iconst (-1), 1) := by decide +kernel
theorem d_X12_place_22 : decode cX12_place 22 = .ok (.ireturn, 1) := by decide +kernel
theorem d_X12_place_23 : decode cX12_place 23 = .ok (.aload_n 0, 1) := by decide +kernel
theorem d_X12_place_24 : decode cX12_place 24 = .ok (.iload_n 1, 1) := by decide +kernel
theorem d_X12_place_25 : decode cX12_place 25 = .ok (.invokevirtual 275, 3) := by decide +kernel
theorem d_X12_place_28 : decode cX12_place 28 = .ok (.istore_n 2, 1) := by decide +kernel
theorem d_X12_place_29 : decode cX12_place 29 = .ok (.iload_n 2, 1) := by decide +kernel
theorem d_X12_place_30 : decode cX12_place 30 = .ok (.ifCond .ne 5, 3) := by decide +kernel
theorem d_X12_place_33 : decode cX12_place 33 = .ok (.iconst 0, 1) := by decide +kernel
theorem d_X12_place_34 : decode cX12_place 34 = .ok (.ireturn, 1) := by decide +kernel
theorem d_X12_place_35 : decode cX12_place 35 = .ok (.aload_n 0, 1) := by decide +kernel
theorem d_X12_place_36 : decode cX12_place 36 = .ok (.invokevirtual 215, 3) := by decide +kernel
theorem d_X12_place_39 : decode cX12_place 39 = .ok (.aload_n 0, 1) := by decide +kernel
theorem d_X12_place_40 : decode cX12_place 40 = .ok (.invokevirtual 278, 3) := by decide +kernel
theorem d_X12_place_43 : decode cX12_place 43 = .ok (.iload_n 2, 1) := by decide +kernel
theorem d_X12_place_44 : decode cX12_place 44 = .ok (.ireturn, 1) := by decide +kernel
theorem d_X12_chain_0 : decode cX12_chain 0 = .ok (.aload_n 0, 1) := by decide +kernel
theorem d_X12_chain_1 : decode cX12_chain 1 = .ok (.iconst 0, 1) := by decide +kernel
theorem d_X12_chain_2 : decode cX12_chain 2 = .ok (.putfield 1, 3) := by decide +kernel
theorem d_X12_chain_5 : decode cX12_chain 5 = .ok (.aload_n 0, 1) := by decide +kernel
theorem d_X12_chain_6 : decode cX12_chain 6 = .ok (.iload_n 1, 1) := by decide +kernel
theorem d_X12_chain_7 : decode cX12_chain 7 = .ok (.invokevirtual 218, 3) := by decide +kernel
theorem d_X12_chain_10 : decode cX12_chain 10 = .ok (.ifCond .eq 19, 3) := by decide +kernel
theorem d_X12_chain_13 : decode cX12_chain 13 = .ok (.aload_n 0, 1) := by decide +kernel
theorem d_X12_chain_14 : decode cX12_chain 14 = .ok (.iload_n 1, 1) := by decide +kernel
theorem d_X12_chain_15 : decode cX12_chain 15 = .ok (.invokevirtual 272, 3) := by decide +kernel
theorem d_X12_chain_18 : decode cX12_chain 18 = .ok (.ifCond .eq 11, 3) := by decide +kernel
theorem d_X12_chain_21 : decode cX12_chain 21 = .ok (.aload_n 0, 1) := by decide +kernel
theorem d_X12_chain_22 : decode cX12_chain 22 = .ok (.iload_n 1, 1) := by decide +kernel
theorem d_X12_chain_23 : decode cX12_chain 23 = .ok (.invokevirtual 275, 3) := by decide +kernel
theorem d_X12_chain_26 : decode cX12_chain 26 = .ok (.goto 4, 3) := by decide +kernel
theorem d_X12_chain_29 : decode cX12_chain 29 = .ok (.iconst (-1), 1) := by decide +kernel
theorem d_X12_chain_30 : decode cX12_chain 30 = .ok (.ireturn, 1) := by decide +kernel
theorem d_X12_chainAt_0 : decode cX12_chainAt 0 = .ok (.aload_n 0, 1) := by decide +kernel
theorem d_X12_chainAt_1 : decode cX12_chainAt 1 = .ok (.iconst 0, 1) := by decide +kernel
theorem d_X12_chainAt_2 : decode cX12_chainAt 2 = .ok (.putfield 1, 3) := by decide +kernel
theorem d_X12_chainAt_5 : decode cX12_chainAt 5 = .ok (.iload_n 1, 1) := by decide +kernel
theorem d_X12_chainAt_6 : decode cX12_chainAt 6 = .ok (.iconst 0, 1) := by decide +kernel
theorem d_X12_chainAt_7 : decode cX12_chainAt 7 = .ok (.aload_n 0, 1) := by decide +kernel
theorem d_X12_chainAt_8 : decode cX12_chainAt 8 = .ok (.getfield 269, 3) := by decide +kernel
theorem d_X12_chainAt_11 : decode cX12_chainAt 11 = .ok (.iconst 1, 1) := by decide +kernel
theorem d_X12_chainAt_12 : decode cX12_chainAt 12 = .ok (.isub, 1) := by decide +kernel
theorem d_X12_chainAt_13 : decode cX12_chainAt 13 = .ok (.invokestatic 83, 3) := by decide +kernel
theorem d_X12_chainAt_16 : decode cX12_chainAt 16 = .ok (.ifCond .eq 25, 3) := by decide +kernel
theorem d_X12_chainAt_19 : decode cX12_chainAt 19 = .ok (.iload_n 2, 1) := by decide +kernel
theorem d_X12_chainAt_20 : decode cX12_chainAt 20 = .ok (.iconst 0, 1) := by decide +kernel
theorem d_X12_chainAt_21 : decode cX12_chainAt 21 = .ok (.iconst 1, 1) := by decide +kernel
theorem d_X12_chainAt_22 : decode cX12_chainAt 22 = .ok (.invokestatic 83, 3) := by decide +kernel
theorem d_X12_chainAt_25 : decode cX12_chainAt 25 = .ok (.ifCond .eq 16, 3) := by decide +kernel
theorem d_X12_chainAt_28 : decode cX12_chainAt 28 = .ok (.aload_n 0, 1) := by decide +kernel
theorem d_X12_chainAt_29 : decode cX12_chainAt 29 = .ok (.getfield 137, 3) := by decide +kernel
theorem d_X12_chainAt_32 : decode cX12_chainAt 32 = .ok (.iconst 2, 1) := by decide +kernel
theorem d_X12_chainAt_33 : decode cX12_chainAt 33 = .ok (.iload_n 1, 1) := by decide +kernel
theorem d_X12_chainAt_34 : decode cX12_chainAt 34 = .ok (.imul, 1) := by decide +kernel
theorem d_X12_chainAt_35 : decode cX12_chainAt 35 = .ok (.iload_n 2, 1) := by decide +kernel
theorem d_X12_chainAt_36 : decode cX12_chainAt 36 = .ok (.iadd, 1) := by decide +kernel
theorem d_X12_chainAt_37 : decode cX12_chainAt 37 = .ok (.iaload, 1) := by decide +kernel
theorem d_X12_chainAt_38 : decode cX12_chainAt 38 = .ok (.goto 4, 3) := by decide +kernel
theorem d_X12_chainAt_41 : decode cX12_chainAt 41 = .ok (.iconst (-1), 1) := by decide +kernel
theorem d_X12_chainAt_42 : decode cX12_chainAt 42 = .ok (.ireturn, 1) := by decide +kernel
theorem d_X12_crowd_0 : decode cX12_crowd 0 = .ok (.aload_n 0, 1) := by decide +kernel
theorem d_X12_crowd_1 : decode cX12_crowd 1 = .ok (.iconst 0, 1) := by decide +kernel
theorem d_X12_crowd_2 : decode cX12_crowd 2 = .ok (.putfield 1, 3) := by decide +kernel
theorem d_X12_crowd_5 : decode cX12_crowd 5 = .ok (.aload_n 0, 1) := by decide +kernel
theorem d_X12_crowd_6 : decode cX12_crowd 6 = .ok (.getfield 266, 3) := by decide +kernel
theorem d_X12_crowd_9 : decode cX12_crowd 9 = .ok (.ireturn, 1) := by decide +kernel
theorem d_X12_stay_0 : decode cX12_stay 0 = .ok (.aload_n 0, 1) := by decide +kernel
theorem d_X12_stay_1 : decode cX12_stay 1 = .ok (.getfield 99, 3) := by decide +kernel
theorem d_X12_stay_4 : decode cX12_stay 4 = .ok (.iconst 0, 1) := by decide +kernel
theorem d_X12_stay_5 : decode cX12_stay 5 = .ok (.aload_n 0, 1) := by decide +kernel
theorem d_X12_stay_6 : decode cX12_stay 6 = .ok (.getfield 114, 3) := by decide +kernel
theorem d_X12_stay_9 : decode cX12_stay 9 = .ok (.iconst 0, 1) := by decide +kernel
theorem d_X12_stay_10 : decode cX12_stay 10 = .ok (.invokestatic 184, 3) := by decide +kernel
theorem d_X12_stay_13 : decode cX12_stay 13 = .ok (.aload_n 0, 1) := by decide +kernel
theorem d_X12_stay_14 : decode cX12_stay 14 = .ok (.getfield 111, 3) := by decide +kernel
theorem d_X12_stay_17 : decode cX12_stay 17 = .ok (.iconst 0, 1) := by decide +kernel
theorem d_X12_stay_18 : decode cX12_stay 18 = .ok (.aload_n 0, 1) := by decide +kernel
theorem d_X12_stay_19 : decode cX12_stay 19 = .ok (.getfield 99, 3) := by decide +kernel
theorem d_X12_stay_22 : decode cX12_stay 22 = .ok (.iconst 0, 1) := by decide +kernel
theorem d_X12_stay_23 : decode cX12_stay 23 = .ok (.invokestatic 184, 3) := by decide +kernel
theorem d_X12_stay_26 : decode cX12_stay 26 = .ok (.aload_n 0, 1) := by decide +kernel
theorem d_X12_stay_27 : decode cX12_stay 27 = .ok (.invokevirtual 215, 3) := by decide +kernel
theorem d_X12_stay_30 : decode cX12_stay 30 = .ok (.aload_n 0, 1) := by decide +kernel
theorem d_X12_stay_31 : decode cX12_stay 31 = .ok (.getfield 114, 3) := by decide +kernel
theorem d_X12_stay_34 : decode cX12_stay 34 = .ok (.iconst 0, 1) := by decide +kernel
theorem d_X12_stay_35 : decode cX12_stay 35 = .ok (.aload_n 0, 1) := by decide +kernel
theorem d_X12_stay_36 : decode cX12_stay 36 = .ok (.getfield 99, 3) := by decide +kernel
theorem d_X12_stay_39 : decode cX12_stay 39 = .ok (.iconst 0, 1) := by decide +kernel
theorem d_X12_stay_40 : decode cX12_stay 40 = .ok (.invokestatic 184, 3) := by decide +kernel
theorem d_X12_stay_43 : decode cX12_stay 43 = .ok (.return_, 1) := by decide +kernel
theorem d_X12_places_0 : decode cX12_places 0 = .ok (.aload_n 0, 1) := by decide +kernel
theorem d_X12_places_1 : decode cX12_places 1 = .ok (.iload_n 1, 1) := by decide +kernel
theorem d_X12_places_2 : decode cX12_places 2 = .ok (.invokevirtual 272, 3) := by decide +kernel
theorem d_X12_places_5 : decode cX12_places 5 = .ok (.ifCond .eq 11, 3) := by decide +kernel
theorem d_X12_places_8 : decode cX12_places 8 = .ok (.aload_n 0, 1) := by decide +kernel
theorem d_X12_places_9 : decode cX12_places 9 = .ok (.iload_n 1, 1) := by decide +kernel
theorem d_X12_places_10 : decode cX12_places 10 = .ok (.invokevirtual 263, 3) := by decide +kernel
theorem d_X12_places_13 : decode cX12_places 13 = .ok (.ifCond .ne 5, 3) := by decide +kernel
theorem d_X12_places_16 : decode cX12_places 16 = .ok (.iconst 0, 1) := by decide +kernel
theorem d_X12_places_17 : decode cX12_places 17 = .ok (.ireturn, 1) := by decide +kernel
theorem d_X12_places_18 : decode cX12_places 18 = .ok (.aload_n 0, 1) := by decide +kernel
theorem d_X12_places_19 : decode cX12_places 19 = .ok (.invokevirtual 278, 3) := by decide +kernel
theorem d_X12_places_22 : decode cX12_places 22 = .ok (.iconst 1, 1) := by decide +kernel
theorem d_X12_places_23 : decode cX12_places 23 = .ok (.ireturn, 1) := by decide +kernel
theorem d_X12_pack_0 : decode cX12_pack 0 = .ok (.aload_n 0, 1) := by decide +kernel
theorem d_X12_pack_1 : decode cX12_pack 1 = .ok (.iconst 0, 1) := by decide +kernel
theorem d_X12_pack_2 : decode cX12_pack 2 = .ok (.putfield 1, 3) := by decide +kernel
theorem d_X12_pack_5 : decode cX12_pack 5 = .ok (.aload_n 0, 1) := by decide +kernel
theorem d_X12_pack_6 : decode cX12_pack 6 = .ok (.getfield 99, 3) := by decide +kernel
theorem d_X12_pack_9 : decode cX12_pack 9 = .ok (.iconst 0, 1) := by decide +kernel
theorem d_X12_pack_10 : decode cX12_pack 10 = .ok (.aload_n 0, 1) := by decide +kernel
theorem d_X12_pack_11 : decode cX12_pack 11 = .ok (.getfield 111, 3) := by decide +kernel
theorem d_X12_pack_14 : decode cX12_pack 14 = .ok (.iconst 0, 1) := by decide +kernel
theorem d_X12_pack_15 : decode cX12_pack 15 = .ok (.invokestatic 184, 3) := by decide +kernel
theorem d_X12_pack_18 : decode cX12_pack 18 = .ok (.iconst 0, 1) := by decide +kernel
theorem d_X12_pack_19 : decode cX12_pack 19 = .ok (.istore_n 1, 1) := by decide +kernel
theorem d_X12_pack_20 : decode cX12_pack 20 = .ok (.iconst 0, 1) := by decide +kernel
theorem d_X12_pack_21 : decode cX12_pack 21 = .ok (.istore_n 2, 1) := by decide +kernel
theorem d_X12_pack_22 : decode cX12_pack 22 = .ok (.iload_n 2, 1) := by decide +kernel
theorem d_X12_pack_23 : decode cX12_pack 23 = .ok (.aload_n 0, 1) := by decide +kernel
theorem d_X12_pack_24 : decode cX12_pack 24 = .ok (.invokevirtual 194, 3) := by decide +kernel
theorem d_X12_pack_27 : decode cX12_pack 27 = .ok (.if_icmp .ge 20, 3) := by decide +kernel
theorem d_X12_pack_30 : decode cX12_pack 30 = .ok (.aload_n 0, 1) := by decide +kernel
theorem d_X12_pack_31 : decode cX12_pack 31 = .ok (.iload_n 2, 1) := by decide +kernel
theorem d_X12_pack_32 : decode cX12_pack 32 = .ok (.invokevirtual 281, 3) := by decide +kernel
theorem d_X12_pack_35 : decode cX12_pack 35 = .ok (.ifCond .eq 6, 3) := by decide +kernel
theorem d_X12_pack_38 : decode cX12_pack 38 = .ok (.iinc 1 1, 3) := by decide +kernel
theorem d_X12_pack_41 : decode cX12_pack 41 = .ok (.iinc 2 1, 3) := by decide +kernel
theorem d_X12_pack_44 : decode cX12_pack 44 = .ok (.goto (-22), 3) := by decide +kernel
theorem d_X12_pack_47 : decode cX12_pack 47 = .ok (.iload_n 1, 1) := by decide +kernel
theorem d_X12_pack_48 : decode cX12_pack 48 = .ok (.ifCond .le 7, 3) := by decide +kernel
theorem d_X12_pack_51 : decode cX12_pack 51 = .ok (.aload_n 0, 1) := by decide +kernel
theorem d_X12_pack_52 : decode cX12_pack 52 = .ok (.invokevirtual 284, 3) := by decide +kernel
theorem d_X12_pack_55 : decode cX12_pack 55 = .ok (.iload_n 1, 1) := by decide +kernel
theorem d_X12_pack_56 : decode cX12_pack 56 = .ok (.ireturn, 1) := by decide +kernel
theorem d_X12_tradeOf_0 : decode cX12_tradeOf 0 = .ok (.aload_n 0, 1) := by decide +kernel
theorem d_X12_tradeOf_1 : decode cX12_tradeOf 1 = .ok (.iload_n 1, 1) := by decide +kernel
theorem d_X12_tradeOf_2 : decode cX12_tradeOf 2 = .ok (.invokevirtual 203, 3) := by decide +kernel
theorem d_X12_tradeOf_5 : decode cX12_tradeOf 5 = .ok (.istore_n 3, 1) := by decide +kernel
theorem d_X12_tradeOf_6 : decode cX12_tradeOf 6 = .ok (.iload_n 3, 1) := by decide +kernel
theorem d_X12_tradeOf_7 : decode cX12_tradeOf 7 = .ok (.iconst (-1), 1) := by decide +kernel
theorem d_X12_tradeOf_8 : decode cX12_tradeOf 8 = .ok (.if_icmp .eq 42, 3) := by decide +kernel
theorem d_X12_tradeOf_11 : decode cX12_tradeOf 11 = .ok (.iload_n 3, 1) := by decide +kernel
theorem d_X12_tradeOf_12 : decode cX12_tradeOf 12 = .ok (.iload_n 2, 1) := by decide +kernel
theorem d_X12_tradeOf_13 : decode cX12_tradeOf 13 = .ok (.if_icmp .eq 37, 3) := by decide +kernel
theorem d_X12_tradeOf_16 : decode cX12_tradeOf 16 = .ok (.aload_n 0, 1) := by decide +kernel
theorem d_X12_tradeOf_17 : decode cX12_tradeOf 17 = .ok (.iload_n 2, 1) := by decide +kernel
theorem d_X12_tradeOf_18 : decode cX12_tradeOf 18 = .ok (.invokevirtual 227, 3) := by decide +kernel
theorem d_X12_tradeOf_21 : decode cX12_tradeOf 21 = .ok (.invokestatic 236, 3) := by decide +kernel
theorem d_X12_tradeOf_24 : decode cX12_tradeOf 24 = .ok (.aload_n 0, 1) := by decide +kernel
theorem d_X12_tradeOf_25 : decode cX12_tradeOf 25 = .ok (.invokevirtual 191, 3) := by decide +kernel
theorem d_X12_tradeOf_28 : decode cX12_tradeOf 28 = .ok (.iconst 1, 1) := by decide +kernel
theorem d_X12_tradeOf_29 : decode cX12_tradeOf 29 = .ok (.isub, 1) := by decide +kernel
theorem d_X12_tradeOf_30 : decode cX12_tradeOf 30 = .ok (.if_icmp .ne 20, 3) := by decide +kernel
theorem d_X12_tradeOf_33 : decode cX12_tradeOf 33 = .ok (.aload_n 0, 1) := by decide +kernel
theorem d_X12_tradeOf_34 : decode cX12_tradeOf 34 = .ok (.iload_n 3, 1) := by decide +kernel
theorem d_X12_tradeOf_35 : decode cX12_tradeOf 35 = .ok (.invokevirtual 227, 3) := by decide +kernel
theorem d_X12_tradeOf_38 : decode cX12_tradeOf 38 = .ok (.invokestatic 236, 3) := by decide +kernel
theorem d_X12_tradeOf_41 : decode cX12_tradeOf 41 = .ok (.aload_n 0, 1) := by decide +kernel
theorem d_X12_tradeOf_42 : decode cX12_tradeOf 42 = .ok (.invokevirtual 191, 3) := by decide +kernel
theorem d_X12_tradeOf_45 : decode cX12_tradeOf 45 = .ok (.iconst 1, 1) := by decide +kernel
theorem d_X12_tradeOf_46 : decode cX12_tradeOf 46 = .ok (.isub, 1) := by decide +kernel
theorem d_X12_tradeOf_47 : decode cX12_tradeOf 47 = .ok (.if_icmp .eq 5, 3) := by decide +kernel
theorem d_X12_tradeOf_50 : decode cX12_tradeOf 50 = .ok (.iconst (-1), 1) := by decide +kernel
theorem d_X12_tradeOf_51 : decode cX12_tradeOf 51 = .ok (.ireturn, 1) := by decide +kernel
theorem d_X12_tradeOf_52 : decode cX12_tradeOf 52 = .ok (.iconst 0, 1) := by decide +kernel
theorem d_X12_tradeOf_53 : decode cX12_tradeOf 53 = .ok (.istore 4, 2) := by decide +kernel
theorem d_X12_tradeOf_55 : decode cX12_tradeOf 55 = .ok (.iload 4, 2) := by decide +kernel
theorem d_X12_tradeOf_57 : decode cX12_tradeOf 57 = .ok (.aload_n 0, 1) := by decide +kernel
theorem d_X12_tradeOf_58 : decode cX12_tradeOf 58 = .ok (.invokevirtual 194, 3) := by decide +kernel
theorem d_X12_tradeOf_61 : decode cX12_tradeOf 61 = .ok (.if_icmp .ge 73, 3) := by decide +kernel
theorem d_X12_tradeOf_64 : decode cX12_tradeOf 64 = .ok (.aload_n 0, 1) := by decide +kernel
theorem d_X12_tradeOf_65 : decode cX12_tradeOf 65 = .ok (.iload 4, 2) := by decide +kernel
theorem d_X12_tradeOf_67 : decode cX12_tradeOf 67 = .ok (.invokevirtual 203, 3) := by decide +kernel
theorem d_X12_tradeOf_70 : decode cX12_tradeOf 70 = .ok (.iload_n 2, 1) := by decide +kernel
theorem d_X12_tradeOf_71 : decode cX12_tradeOf 71 = .ok (.if_icmp .eq 6, 3) := by decide +kernel
theorem d_X12_tradeOf_74 : decode cX12_tradeOf 74 = .ok (.goto 54, 3) := by decide +kernel
theorem d_X12_tradeOf_77 : decode cX12_tradeOf 77 = .ok (.aload_n 0, 1) := by decide +kernel
theorem d_X12_tradeOf_78 : decode cX12_tradeOf 78 = .ok (.iload_n 3, 1) := by decide +kernel
theorem d_X12_tradeOf_79 : decode cX12_tradeOf 79 = .ok (.invokevirtual 227, 3) := by decide +kernel
theorem d_X12_tradeOf_82 : decode cX12_tradeOf 82 = .ok (.iconst 1, 1) := by decide +kernel
theorem d_X12_tradeOf_83 : decode cX12_tradeOf 83 = .ok (.iload_n 1, 1) := by decide +kernel
theorem d_X12_tradeOf_84 : decode cX12_tradeOf 84 = .ok (.ishl, 1) := by decide +kernel
theorem d_X12_tradeOf_85 : decode cX12_tradeOf 85 = .ok (.iconst (-1), 1) := by decide +kernel
theorem d_X12_tradeOf_86 : decode cX12_tradeOf 86 = .ok (.ixor, 1) := by decide +kernel
theorem d_X12_tradeOf_87 : decode cX12_tradeOf 87 = .ok (.iand, 1) := by decide +kernel
theorem d_X12_tradeOf_88 : decode cX12_tradeOf 88 = .ok (.istore 5, 2) := by decide +kernel
theorem d_X12_tradeOf_90 : decode cX12_tradeOf 90 = .ok (.aload_n 0, 1) := by decide +kernel
theorem d_X12_tradeOf_91 : decode cX12_tradeOf 91 = .ok (.iload_n 2, 1) := by decide +kernel
theorem d_X12_tradeOf_92 : decode cX12_tradeOf 92 = .ok (.invokevirtual 227, 3) := by decide +kernel
theorem d_X12_tradeOf_95 : decode cX12_tradeOf 95 = .ok (.iconst 1, 1) := by decide +kernel
theorem d_X12_tradeOf_96 : decode cX12_tradeOf 96 = .ok (.iload 4, 2) := by decide +kernel
theorem d_X12_tradeOf_98 : decode cX12_tradeOf 98 = .ok (.ishl, 1) := by decide +kernel
theorem d_X12_tradeOf_99 : decode cX12_tradeOf 99 = .ok (.iconst (-1), 1) := by decide +kernel
theorem d_X12_tradeOf_100 : decode cX12_tradeOf 100 = .ok (.ixor, 1) := by decide +kernel
theorem d_X12_tradeOf_101 : decode cX12_tradeOf 101 = .ok (.iand, 1) := by decide +kernel
theorem d_X12_tradeOf_102 : decode cX12_tradeOf 102 = .ok (.istore 6, 2) := by decide +kernel
theorem d_X12_tradeOf_104 : decode cX12_tradeOf 104 = .ok (.aload_n 0, 1) := by decide +kernel
theorem d_X12_tradeOf_105 : decode cX12_tradeOf 105 = .ok (.iload 4, 2) := by decide +kernel
theorem d_X12_tradeOf_107 : decode cX12_tradeOf 107 = .ok (.iload 5, 2) := by decide +kernel
theorem d_X12_tradeOf_109 : decode cX12_tradeOf 109 = .ok (.invokevirtual 230, 3) := by decide +kernel
theorem d_X12_tradeOf_112 : decode cX12_tradeOf 112 = .ok (.ifCond .ne 16, 3) := by decide +kernel
theorem d_X12_tradeOf_115 : decode cX12_tradeOf 115 = .ok (.aload_n 0, 1) := by decide +kernel
theorem d_X12_tradeOf_116 : decode cX12_tradeOf 116 = .ok (.iload_n 1, 1) := by decide +kernel
theorem d_X12_tradeOf_117 : decode cX12_tradeOf 117 = .ok (.iload 6, 2) := by decide +kernel
theorem d_X12_tradeOf_119 : decode cX12_tradeOf 119 = .ok (.invokevirtual 230, 3) := by decide +kernel
theorem d_X12_tradeOf_122 : decode cX12_tradeOf 122 = .ok (.ifCond .ne 6, 3) := by decide +kernel
theorem d_X12_tradeOf_125 : decode cX12_tradeOf 125 = .ok (.iload 4, 2) := by decide +kernel
theorem d_X12_tradeOf_127 : decode cX12_tradeOf 127 = .ok (.ireturn, 1) := by decide +kernel
theorem d_X12_tradeOf_128 : decode cX12_tradeOf 128 = .ok (.iinc 4 1, 3) := by decide +kernel
theorem d_X12_tradeOf_131 : decode cX12_tradeOf 131 = .ok (.goto (-76), 3) := by decide +kernel
theorem d_X12_tradeOf_134 : decode cX12_tradeOf 134 = .ok (.iconst (-1), 1) := by decide +kernel
theorem d_X12_tradeOf_135 : decode cX12_tradeOf 135 = .ok (.ireturn, 1) := by decide +kernel
theorem d_X12_trades_0 : decode cX12_trades 0 = .ok (.aload_n 0, 1) := by decide +kernel
theorem d_X12_trades_1 : decode cX12_trades 1 = .ok (.iload_n 1, 1) := by decide +kernel
theorem d_X12_trades_2 : decode cX12_trades 2 = .ok (.invokevirtual 203, 3) := by decide +kernel
theorem d_X12_trades_5 : decode cX12_trades 5 = .ok (.istore_n 3, 1) := by decide +kernel
theorem d_X12_trades_6 : decode cX12_trades 6 = .ok (.aload_n 0, 1) := by decide +kernel
theorem d_X12_trades_7 : decode cX12_trades 7 = .ok (.getfield 99, 3) := by decide +kernel
theorem d_X12_trades_10 : decode cX12_trades 10 = .ok (.bipush 75, 2) := by decide +kernel
theorem d_X12_trades_12 : decode cX12_trades 12 = .ok (.iload_n 1, 1) := by decide +kernel
theorem d_X12_trades_13 : decode cX12_trades 13 = .ok (.iadd, 1) := by decide +kernel
theorem d_X12_trades_14 : decode cX12_trades 14 = .ok (.aload_n 0, 1) := by decide +kernel
theorem d_X12_trades_15 : decode cX12_trades 15 = .ok (.iload_n 2, 1) := by decide +kernel
theorem d_X12_trades_16 : decode cX12_trades 16 = .ok (.invokevirtual 203, 3) := by decide +kernel
theorem d_X12_trades_19 : decode cX12_trades 19 = .ok (.iastore, 1) := by decide +kernel
theorem d_X12_trades_20 : decode cX12_trades 20 = .ok (.aload_n 0, 1) := by decide +kernel
theorem d_X12_trades_21 : decode cX12_trades 21 = .ok (.getfield 99, 3) := by decide +kernel
theorem d_X12_trades_24 : decode cX12_trades 24 = .ok (.bipush 75, 2) := by decide +kernel
theorem d_X12_trades_26 : decode cX12_trades 26 = .ok (.iload_n 2, 1) := by decide +kernel
theorem d_X12_trades_27 : decode cX12_trades 27 = .ok (.iadd, 1) := by decide +kernel
theorem d_X12_trades_28 : decode cX12_trades 28 = .ok (.iload_n 3, 1) := by decide +kernel
theorem d_X12_trades_29 : decode cX12_trades 29 = .ok (.iastore, 1) := by decide +kernel
theorem d_X12_trades_30 : decode cX12_trades 30 = .ok (.return_, 1) := by decide +kernel
theorem d_X12_trade_0 : decode cX12_trade 0 = .ok (.aload_n 0, 1) := by decide +kernel
theorem d_X12_trade_1 : decode cX12_trade 1 = .ok (.iconst 0, 1) := by decide +kernel
theorem d_X12_trade_2 : decode cX12_trade 2 = .ok (.putfield 1, 3) := by decide +kernel
theorem d_X12_trade_5 : decode cX12_trade 5 = .ok (.aload_n 0, 1) := by decide +kernel
theorem d_X12_trade_6 : decode cX12_trade 6 = .ok (.iload_n 1, 1) := by decide +kernel
theorem d_X12_trade_7 : decode cX12_trade 7 = .ok (.invokevirtual 218, 3) := by decide +kernel
theorem d_X12_trade_10 : decode cX12_trade 10 = .ok (.ifCond .eq 11, 3) := by decide +kernel
theorem d_X12_trade_13 : decode cX12_trade 13 = .ok (.aload_n 0, 1) := by decide +kernel
theorem d_X12_trade_14 : decode cX12_trade 14 = .ok (.iload_n 2, 1) := by decide +kernel
theorem d_X12_trade_15 : decode cX12_trade 15 = .ok (.invokevirtual 224, 3) := by decide +kernel
theorem d_X12_trade_18 : decode cX12_trade 18 = .ok (.ifCond .ne 5, 3) := by decide +kernel
theorem d_X12_trade_21 : decode cX12_trade 21 = .ok (.iconst (-1), 1) := by decide +kernel
theorem d_X12_trade_22 : decode cX12_trade 22 = .ok (.ireturn, 1) := by decide +kernel
theorem d_X12_trade_23 : decode cX12_trade 23 = .ok (.aload_n 0, 1) := by decide +kernel
theorem d_X12_trade_24 : decode cX12_trade 24 = .ok (.iload_n 1, 1) := by decide +kernel
theorem d_X12_trade_25 : decode cX12_trade 25 = .ok (.iload_n 2, 1) := by decide +kernel
theorem d_X12_trade_26 : decode cX12_trade 26 = .ok (.invokevirtual 287, 3) := by decide +kernel
theorem d_X12_trade_29 : decode cX12_trade 29 = .ok (.istore_n 3, 1) := by decide +kernel
theorem d_X12_trade_30 : decode cX12_trade 30 = .ok (.iload_n 3, 1) := by decide +kernel
theorem d_X12_trade_31 : decode cX12_trade 31 = .ok (.iconst (-1), 1) := by decide +kernel
theorem d_X12_trade_32 : decode cX12_trade 32 = .ok (.if_icmp .ne 5, 3) := by decide +kernel
theorem d_X12_trade_35 : decode cX12_trade 35 = .ok (.iconst (-1), 1) := by decide +kernel
theorem d_X12_trade_36 : decode cX12_trade 36 = .ok (.ireturn, 1) := by decide +kernel
theorem d_X12_trade_37 : decode cX12_trade 37 = .ok (.aload_n 0, 1) := by decide +kernel
theorem d_X12_trade_38 : decode cX12_trade 38 = .ok (.invokevirtual 215, 3) := by decide +kernel
theorem d_X12_trade_41 : decode cX12_trade 41 = .ok (.aload_n 0, 1) := by decide +kernel
theorem d_X12_trade_42 : decode cX12_trade 42 = .ok (.iload_n 1, 1) := by decide +kernel
theorem d_X12_trade_43 : decode cX12_trade 43 = .ok (.iload_n 3, 1) := by decide +kernel
theorem d_X12_trade_44 : decode cX12_trade 44 = .ok (.invokevirtual 290, 3) := by decide +kernel
theorem d_X12_trade_47 : decode cX12_trade 47 = .ok (.iload_n 3, 1) := by decide +kernel
theorem d_X12_trade_48 : decode cX12_trade 48 = .ok (.ireturn, 1) := by decide +kernel
theorem d_X12_flips_0 : decode cX12_flips 0 = .ok (.aload_n 0, 1) := by decide +kernel
theorem d_X12_flips_1 : decode cX12_flips 1 = .ok (.getfield 99, 3) := by decide +kernel
theorem d_X12_flips_4 : decode cX12_flips 4 = .ok (.bipush 99, 2) := by decide +kernel
theorem d_X12_flips_6 : decode cX12_flips 6 = .ok (.iload_n 1, 1) := by decide +kernel
theorem d_X12_flips_7 : decode cX12_flips 7 = .ok (.iadd, 1) := by decide +kernel
theorem d_X12_flips_8 : decode cX12_flips 8 = .ok (.iconst 1, 1) := by decide +kernel
theorem d_X12_flips_9 : decode cX12_flips 9 = .ok (.aload_n 0, 1) := by decide +kernel
theorem d_X12_flips_10 : decode cX12_flips 10 = .ok (.getfield 99, 3) := by decide +kernel
theorem d_X12_flips_13 : decode cX12_flips 13 = .ok (.bipush 99, 2) := by decide +kernel
theorem d_X12_flips_15 : decode cX12_flips 15 = .ok (.iload_n 1, 1) := by decide +kernel
theorem d_X12_flips_16 : decode cX12_flips 16 = .ok (.iadd, 1) := by decide +kernel
theorem d_X12_flips_17 : decode cX12_flips 17 = .ok (.iaload, 1) := by decide +kernel
theorem d_X12_flips_18 : decode cX12_flips 18 = .ok (.isub, 1) := by decide +kernel
theorem d_X12_flips_19 : decode cX12_flips 19 = .ok (.iastore, 1) := by decide +kernel
theorem d_X12_flips_20 : decode cX12_flips 20 = .ok (.aload_n 0, 1) := by decide +kernel
theorem d_X12_flips_21 : decode cX12_flips 21 = .ok (.getfield 99, 3) := by decide +kernel
theorem d_X12_flips_24 : decode cX12_flips 24 = .ok (.bipush 75, 2) := by decide +kernel
theorem d_X12_flips_26 : decode cX12_flips 26 = .ok (.iload_n 1, 1) := by decide +kernel
theorem d_X12_flips_27 : decode cX12_flips 27 = .ok (.iadd, 1) := by decide +kernel
theorem d_X12_flips_28 : decode cX12_flips 28 = .ok (.iconst (-1), 1) := by decide +kernel
theorem d_X12_flips_29 : decode cX12_flips 29 = .ok (.iastore, 1) := by decide +kernel
theorem d_X12_flips_30 : decode cX12_flips 30 = .ok (.return_, 1) := by decide +kernel
theorem d_X12_flipsIf_0 : decode cX12_flipsIf 0 = .ok (.aload_n 0, 1) := by decide +kernel
theorem d_X12_flipsIf_1 : decode cX12_flipsIf 1 = .ok (.iconst 0, 1) := by decide +kernel
theorem d_X12_flipsIf_2 : decode cX12_flipsIf 2 = .ok (.putfield 1, 3) := by decide +kernel
theorem d_X12_flipsIf_5 : decode cX12_flipsIf 5 = .ok (.aload_n 0, 1) := by decide +kernel
theorem d_X12_flipsIf_6 : decode cX12_flipsIf 6 = .ok (.iload_n 1, 1) := by decide +kernel
theorem d_X12_flipsIf_7 : decode cX12_flipsIf 7 = .ok (.invokevirtual 218, 3) := by decide +kernel
theorem d_X12_flipsIf_10 : decode cX12_flipsIf 10 = .ok (.ifCond .ne 5, 3) := by decide +kernel
theorem d_X12_flipsIf_13 : decode cX12_flipsIf 13 = .ok (.iconst (-1), 1) := by decide +kernel
theorem d_X12_flipsIf_14 : decode cX12_flipsIf 14 = .ok (.ireturn, 1) := by decide +kernel
theorem d_X12_flipsIf_15 : decode cX12_flipsIf 15 = .ok (.aload_n 0, 1) := by decide +kernel
theorem d_X12_flipsIf_16 : decode cX12_flipsIf 16 = .ok (.iload_n 1, 1) := by decide +kernel
theorem d_X12_flipsIf_17 : decode cX12_flipsIf 17 = .ok (.invokevirtual 200, 3) := by decide +kernel
theorem d_X12_flipsIf_20 : decode cX12_flipsIf 20 = .ok (.iload_n 2, 1) := by decide +kernel
theorem d_X12_flipsIf_21 : decode cX12_flipsIf 21 = .ok (.if_icmp .eq 5, 3) := by decide +kernel
theorem d_X12_flipsIf_24 : decode cX12_flipsIf 24 = .ok (.iconst 1, 1) := by decide +kernel
theorem d_X12_flipsIf_25 : decode cX12_flipsIf 25 = .ok (.ireturn, 1) := by decide +kernel
theorem d_X12_flipsIf_26 : decode cX12_flipsIf 26 = .ok (.aload_n 0, 1) := by decide +kernel
theorem d_X12_flipsIf_27 : decode cX12_flipsIf 27 = .ok (.invokevirtual 215, 3) := by decide +kernel
theorem d_X12_flipsIf_30 : decode cX12_flipsIf 30 = .ok (.aload_n 0, 1) := by decide +kernel
theorem d_X12_flipsIf_31 : decode cX12_flipsIf 31 = .ok (.iload_n 1, 1) := by decide +kernel
theorem d_X12_flipsIf_32 : decode cX12_flipsIf 32 = .ok (.invokevirtual 294, 3) := by decide +kernel
theorem d_X12_flipsIf_35 : decode cX12_flipsIf 35 = .ok (.iconst 0, 1) := by decide +kernel
theorem d_X12_flipsIf_36 : decode cX12_flipsIf 36 = .ok (.ireturn, 1) := by decide +kernel
theorem d_X12_breaks_0 : decode cX12_breaks 0 = .ok (.aload_n 0, 1) := by decide +kernel
theorem d_X12_breaks_1 : decode cX12_breaks 1 = .ok (.iload_n 1, 1) := by decide +kernel
theorem d_X12_breaks_2 : decode cX12_breaks 2 = .ok (.iconst 0, 1) := by decide +kernel
theorem d_X12_breaks_3 : decode cX12_breaks 3 = .ok (.invokevirtual 297, 3) := by decide +kernel
theorem d_X12_breaks_6 : decode cX12_breaks 6 = .ok (.ireturn, 1) := by decide +kernel
theorem d_X12_mend_0 : decode cX12_mend 0 = .ok (.aload_n 0, 1) := by decide +kernel
theorem d_X12_mend_1 : decode cX12_mend 1 = .ok (.iload_n 1, 1) := by decide +kernel
theorem d_X12_mend_2 : decode cX12_mend 2 = .ok (.iconst 1, 1) := by decide +kernel
theorem d_X12_mend_3 : decode cX12_mend 3 = .ok (.invokevirtual 297, 3) := by decide +kernel
theorem d_X12_mend_6 : decode cX12_mend 6 = .ok (.ireturn, 1) := by decide +kernel
theorem d_X12_weigh_0 : decode cX12_weigh 0 = .ok (.aload_n 0, 1) := by decide +kernel
theorem d_X12_weigh_1 : decode cX12_weigh 1 = .ok (.iconst 0, 1) := by decide +kernel
theorem d_X12_weigh_2 : decode cX12_weigh 2 = .ok (.putfield 1, 3) := by decide +kernel
theorem d_X12_weigh_5 : decode cX12_weigh 5 = .ok (.aload_n 0, 1) := by decide +kernel
theorem d_X12_weigh_6 : decode cX12_weigh 6 = .ok (.iload_n 1, 1) := by decide +kernel
theorem d_X12_weigh_7 : decode cX12_weigh 7 = .ok (.invokevirtual 218, 3) := by decide +kernel
theorem d_X12_weigh_10 : decode cX12_weigh 10 = .ok (.ifCond .eq 13, 3) := by decide +kernel
theorem d_X12_weigh_13 : decode cX12_weigh 13 = .ok (.iload_n 2, 1) := by decide +kernel
theorem d_X12_weigh_14 : decode cX12_weigh 14 = .ok (.iconst 1, 1) := by decide +kernel
theorem d_X12_weigh_15 : decode cX12_weigh 15 = .ok (.bipush 99, 2) := by decide +kernel
theorem d_X12_weigh_17 : decode cX12_weigh 17 = .ok (.invokestatic 83, 3) := by decide +kernel
theorem d_X12_weigh_20 : decode cX12_weigh 20 = .ok (.ifCond .ne 5, 3) := by decide +kernel
theorem d_X12_weigh_23 : decode cX12_weigh 23 = .ok (.iconst (-1), 1) := by decide +kernel
theorem d_X12_weigh_24 : decode cX12_weigh 24 = .ok (.ireturn, 1) := by decide +kernel
theorem d_X12_weigh_25 : decode cX12_weigh 25 = .ok (.aload_n 0, 1) := by decide +kernel
theorem d_X12_weigh_26 : decode cX12_weigh 26 = .ok (.getfield 99, 3) := by decide +kernel
theorem d_X12_weigh_29 : decode cX12_weigh 29 = .ok (.bipush 51, 2) := by decide +kernel
theorem d_X12_weigh_31 : decode cX12_weigh 31 = .ok (.iload_n 1, 1) := by decide +kernel
theorem d_X12_weigh_32 : decode cX12_weigh 32 = .ok (.iadd, 1) := by decide +kernel
theorem d_X12_weigh_33 : decode cX12_weigh 33 = .ok (.iaload, 1) := by decide +kernel
theorem d_X12_weigh_34 : decode cX12_weigh 34 = .ok (.iload_n 2, 1) := by decide +kernel
theorem d_X12_weigh_35 : decode cX12_weigh 35 = .ok (.if_icmp .ne 5, 3) := by decide +kernel
theorem d_X12_weigh_38 : decode cX12_weigh 38 = .ok (.iconst 1, 1) := by decide +kernel
theorem d_X12_weigh_39 : decode cX12_weigh 39 = .ok (.ireturn, 1) := by decide +kernel
theorem d_X12_weigh_40 : decode cX12_weigh 40 = .ok (.aload_n 0, 1) := by decide +kernel
theorem d_X12_weigh_41 : decode cX12_weigh 41 = .ok (.invokevirtual 215, 3) := by decide +kernel
theorem d_X12_weigh_44 : decode cX12_weigh 44 = .ok (.aload_n 0, 1) := by decide +kernel
theorem d_X12_weigh_45 : decode cX12_weigh 45 = .ok (.getfield 99, 3) := by decide +kernel
theorem d_X12_weigh_48 : decode cX12_weigh 48 = .ok (.bipush 51, 2) := by decide +kernel
theorem d_X12_weigh_50 : decode cX12_weigh 50 = .ok (.iload_n 1, 1) := by decide +kernel
theorem d_X12_weigh_51 : decode cX12_weigh 51 = .ok (.iadd, 1) := by decide +kernel
theorem d_X12_weigh_52 : decode cX12_weigh 52 = .ok (.iload_n 2, 1) := by decide +kernel
theorem d_X12_weigh_53 : decode cX12_weigh 53 = .ok (.iastore, 1) := by decide +kernel
theorem d_X12_weigh_54 : decode cX12_weigh 54 = .ok (.iconst 0, 1) := by decide +kernel
theorem d_X12_weigh_55 : decode cX12_weigh 55 = .ok (.ireturn, 1) := by decide +kernel
theorem d_X12_outOf_0 : decode cX12_outOf 0 = .ok (.aload_n 0, 1) := by decide +kernel
theorem d_X12_outOf_1 : decode cX12_outOf 1 = .ok (.getfield 99, 3) := by decide +kernel
theorem d_X12_outOf_4 : decode cX12_outOf 4 = .ok (.aload_n 0, 1) := by decide +kernel
theorem d_X12_outOf_5 : decode cX12_outOf 5 = .ok (.getfield 99, 3) := by decide +kernel
theorem d_X12_outOf_8 : decode cX12_outOf 8 = .ok (.bipush 123, 2) := by decide +kernel
theorem d_X12_outOf_10 : decode cX12_outOf 10 = .ok (.iload_n 1, 1) := by decide +kernel
theorem d_X12_outOf_11 : decode cX12_outOf 11 = .ok (.iadd, 1) := by decide +kernel
theorem d_X12_outOf_12 : decode cX12_outOf 12 = .ok (.iaload, 1) := by decide +kernel
theorem d_X12_outOf_13 : decode cX12_outOf 13 = .ok (.iconst 1, 1) := by decide +kernel
theorem d_X12_outOf_14 : decode cX12_outOf 14 = .ok (.if_icmp .ne 8, 3) := by decide +kernel
theorem d_X12_outOf_17 : decode cX12_outOf 17 = .ok (.bipush 27, 2) := by decide +kernel
theorem d_X12_outOf_19 : decode cX12_outOf 19 = .ok (.goto 4, 3) := by decide +kernel
theorem d_X12_outOf_22 : decode cX12_outOf 22 = .ok (.iconst 3, 1) := by decide +kernel
theorem d_X12_outOf_23 : decode cX12_outOf 23 = .ok (.iload_n 1, 1) := by decide +kernel
theorem d_X12_outOf_24 : decode cX12_outOf 24 = .ok (.iadd, 1) := by decide +kernel
theorem d_X12_outOf_25 : decode cX12_outOf 25 = .ok (.iaload, 1) := by decide +kernel
theorem d_X12_outOf_26 : decode cX12_outOf 26 = .ok (.ireturn, 1) := by decide +kernel
theorem d_X12_turn_0 : decode cX12_turn 0 = .ok (.aload_n 0, 1) := by decide +kernel
theorem d_X12_turn_1 : decode cX12_turn 1 = .ok (.iconst 0, 1) := by decide +kernel
theorem d_X12_turn_2 : decode cX12_turn 2 = .ok (.putfield 1, 3) := by decide +kernel
theorem d_X12_turn_5 : decode cX12_turn 5 = .ok (.aload_n 0, 1) := by decide +kernel
theorem d_X12_turn_6 : decode cX12_turn 6 = .ok (.iload_n 1, 1) := by decide +kernel
theorem d_X12_turn_7 : decode cX12_turn 7 = .ok (.invokevirtual 218, 3) := by decide +kernel
theorem d_X12_turn_10 : decode cX12_turn 10 = .ok (.ifCond .ne 5, 3) := by decide +kernel
theorem d_X12_turn_13 : decode cX12_turn 13 = .ok (.iconst (-1), 1) := by decide +kernel
theorem d_X12_turn_14 : decode cX12_turn 14 = .ok (.ireturn, 1) := by decide +kernel
theorem d_X12_turn_15 : decode cX12_turn 15 = .ok (.aload_n 0, 1) := by decide +kernel
theorem d_X12_turn_16 : decode cX12_turn 16 = .ok (.invokevirtual 215, 3) := by decide +kernel
theorem d_X12_turn_19 : decode cX12_turn 19 = .ok (.aload_n 0, 1) := by decide +kernel
theorem d_X12_turn_20 : decode cX12_turn 20 = .ok (.getfield 99, 3) := by decide +kernel
theorem d_X12_turn_23 : decode cX12_turn 23 = .ok (.bipush 123, 2) := by decide +kernel
theorem d_X12_turn_25 : decode cX12_turn 25 = .ok (.iload_n 1, 1) := by decide +kernel
theorem d_X12_turn_26 : decode cX12_turn 26 = .ok (.iadd, 1) := by decide +kernel
theorem d_X12_turn_27 : decode cX12_turn 27 = .ok (.iconst 1, 1) := by decide +kernel
theorem d_X12_turn_28 : decode cX12_turn 28 = .ok (.aload_n 0, 1) := by decide +kernel
theorem d_X12_turn_29 : decode cX12_turn 29 = .ok (.getfield 99, 3) := by decide +kernel
theorem d_X12_turn_32 : decode cX12_turn 32 = .ok (.bipush 123, 2) := by decide +kernel
theorem d_X12_turn_34 : decode cX12_turn 34 = .ok (.iload_n 1, 1) := by decide +kernel
theorem d_X12_turn_35 : decode cX12_turn 35 = .ok (.iadd, 1) := by decide +kernel
theorem d_X12_turn_36 : decode cX12_turn 36 = .ok (.iaload, 1) := by decide +kernel
theorem d_X12_turn_37 : decode cX12_turn 37 = .ok (.isub, 1) := by decide +kernel
theorem d_X12_turn_38 : decode cX12_turn 38 = .ok (.iastore, 1) := by decide +kernel
theorem d_X12_turn_39 : decode cX12_turn 39 = .ok (.aload_n 0, 1) := by decide +kernel
theorem d_X12_turn_40 : decode cX12_turn 40 = .ok (.iload_n 1, 1) := by decide +kernel
theorem d_X12_turn_41 : decode cX12_turn 41 = .ok (.invokevirtual 301, 3) := by decide +kernel
theorem d_X12_turn_44 : decode cX12_turn 44 = .ok (.ireturn, 1) := by decide +kernel
theorem d_X12_isPoint_0 : decode cX12_isPoint 0 = .ok (.iload_n 1, 1) := by decide +kernel
theorem d_X12_isPoint_1 : decode cX12_isPoint 1 = .ok (.iconst 0, 1) := by decide +kernel
theorem d_X12_isPoint_2 : decode cX12_isPoint 2 = .ok (.aload_n 0, 1) := by decide +kernel
theorem d_X12_isPoint_3 : decode cX12_isPoint 3 = .ok (.invokevirtual 191, 3) := by decide +kernel
theorem d_X12_isPoint_6 : decode cX12_isPoint 6 = .ok (.iconst 1, 1) := by decide +kernel
theorem d_X12_isPoint_7 : decode cX12_isPoint 7 = .ok (.isub, 1) := by decide +kernel
theorem d_X12_isPoint_8 : decode cX12_isPoint 8 = .ok (.invokestatic 83, 3) := by decide +kernel
theorem d_X12_isPoint_11 : decode cX12_isPoint 11 = .ok (.ireturn, 1) := by decide +kernel
theorem d_X12_loadOf_0 : decode cX12_loadOf 0 = .ok (.iconst 0, 1) := by decide +kernel
theorem d_X12_loadOf_1 : decode cX12_loadOf 1 = .ok (.istore_n 2, 1) := by decide +kernel
theorem d_X12_loadOf_2 : decode cX12_loadOf 2 = .ok (.iconst 0, 1) := by decide +kernel
theorem d_X12_loadOf_3 : decode cX12_loadOf 3 = .ok (.istore_n 3, 1) := by decide +kernel
theorem d_X12_loadOf_4 : decode cX12_loadOf 4 = .ok (.iload_n 3, 1) := by decide +kernel
theorem d_X12_loadOf_5 : decode cX12_loadOf 5 = .ok (.aload_n 0, 1) := by decide +kernel
theorem d_X12_loadOf_6 : decode cX12_loadOf 6 = .ok (.invokevirtual 194, 3) := by decide +kernel
theorem d_X12_loadOf_9 : decode cX12_loadOf 9 = .ok (.if_icmp .ge 29, 3) := by decide +kernel
theorem d_X12_loadOf_12 : decode cX12_loadOf 12 = .ok (.aload_n 0, 1) := by decide +kernel
theorem d_X12_loadOf_13 : decode cX12_loadOf 13 = .ok (.iload_n 3, 1) := by decide +kernel
theorem d_X12_loadOf_14 : decode cX12_loadOf 14 = .ok (.invokevirtual 200, 3) := by decide +kernel
theorem d_X12_loadOf_17 : decode cX12_loadOf 17 = .ok (.ifCond .ne 15, 3) := by decide +kernel
theorem d_X12_loadOf_20 : decode cX12_loadOf 20 = .ok (.aload_n 0, 1) := by decide +kernel
theorem d_X12_loadOf_21 : decode cX12_loadOf 21 = .ok (.iload_n 3, 1) := by decide +kernel
theorem d_X12_loadOf_22 : decode cX12_loadOf 22 = .ok (.invokevirtual 301, 3) := by decide +kernel
theorem d_X12_loadOf_25 : decode cX12_loadOf 25 = .ok (.iload_n 1, 1) := by decide +kernel
theorem d_X12_loadOf_26 : decode cX12_loadOf 26 = .ok (.if_icmp .ne 6, 3) := by decide +kernel
theorem d_X12_loadOf_29 : decode cX12_loadOf 29 = .ok (.iinc 2 1, 3) := by decide +kernel
theorem d_X12_loadOf_32 : decode cX12_loadOf 32 = .ok (.iinc 3 1, 3) := by decide +kernel
theorem d_X12_loadOf_35 : decode cX12_loadOf 35 = .ok (.goto (-31), 3) := by decide +kernel
theorem d_X12_loadOf_38 : decode cX12_loadOf 38 = .ok (.iload_n 2, 1) := by decide +kernel
theorem d_X12_loadOf_39 : decode cX12_loadOf 39 = .ok (.ireturn, 1) := by decide +kernel
theorem d_X12_load_0 : decode cX12_load 0 = .ok (.aload_n 0, 1) := by decide +kernel
theorem d_X12_load_1 : decode cX12_load 1 = .ok (.iconst 0, 1) := by decide +kernel
theorem d_X12_load_2 : decode cX12_load 2 = .ok (.putfield 1, 3) := by decide +kernel
theorem d_X12_load_5 : decode cX12_load 5 = .ok (.aload_n 0, 1) := by decide +kernel
theorem d_X12_load_6 : decode cX12_load 6 = .ok (.iload_n 1, 1) := by decide +kernel
theorem d_X12_load_7 : decode cX12_load 7 = .ok (.invokevirtual 304, 3) := by decide +kernel
theorem d_X12_load_10 : decode cX12_load 10 = .ok (.ifCond .eq 11, 3) := by decide +kernel
theorem d_X12_load_13 : decode cX12_load 13 = .ok (.aload_n 0, 1) := by decide +kernel
theorem d_X12_load_14 : decode cX12_load 14 = .ok (.iload_n 1, 1) := by decide +kernel
theorem d_X12_load_15 : decode cX12_load 15 = .ok (.invokevirtual 307, 3) := by decide +kernel
theorem d_X12_load_18 : decode cX12_load 18 = .ok (.goto 4, 3) := by decide +kernel
theorem d_X12_load_21 : decode cX12_load 21 = .ok (.iconst (-1), 1) := by decide +kernel
theorem d_X12_load_22 : decode cX12_load 22 = .ok (.ireturn, 1) := by decide +kernel
theorem d_X12_towards_0 : decode cX12_towards 0 = .ok (.aload_n 0, 1) := by decide +kernel
theorem d_X12_towards_1 : decode cX12_towards 1 = .ok (.getfield 99, 3) := by decide +kernel
theorem d_X12_towards_4 : decode cX12_towards 4 = .ok (.aload_n 0, 1) := by decide +kernel
theorem d_X12_towards_5 : decode cX12_towards 5 = .ok (.getfield 99, 3) := by decide +kernel
theorem d_X12_towards_8 : decode cX12_towards 8 = .ok (.bipush 123, 2) := by decide +kernel
theorem d_X12_towards_10 : decode cX12_towards 10 = .ok (.iload_n 1, 1) := by decide +kernel
theorem d_X12_towards_11 : decode cX12_towards 11 = .ok (.iadd, 1) := by decide +kernel
theorem d_X12_towards_12 : decode cX12_towards 12 = .ok (.iaload, 1) := by decide +kernel
theorem d_X12_towards_13 : decode cX12_towards 13 = .ok (.iconst 1, 1) := by decide +kernel
theorem d_X12_towards_14 : decode cX12_towards 14 = .ok (.if_icmp .ne 7, 3) := by decide +kernel
theorem d_X12_towards_17 : decode cX12_towards 17 = .ok (.iconst 3, 1) := by decide +kernel
theorem d_X12_towards_18 : decode cX12_towards 18 = .ok (.goto 5, 3) := by decide +kernel
theorem d_X12_towards_21 : decode cX12_towards 21 = .ok (.bipush 27, 2) := by decide +kernel
theorem d_X12_towards_23 : decode cX12_towards 23 = .ok (.iload_n 1, 1) := by decide +kernel
theorem d_X12_towards_24 : decode cX12_towards 24 = .ok (.iadd, 1) := by decide +kernel
theorem d_X12_towards_25 : decode cX12_towards 25 = .ok (.iaload, 1) := by decide +kernel
theorem d_X12_towards_26 : decode cX12_towards 26 = .ok (.ireturn, 1) := by decide +kernel
theorem d_X12_ease_0 : decode cX12_ease 0 = .ok (.aload_n 0, 1) := by decide +kernel
theorem d_X12_ease_1 : decode cX12_ease 1 = .ok (.iconst 0, 1) := by decide +kernel
theorem d_X12_ease_2 : decode cX12_ease 2 = .ok (.putfield 1, 3) := by decide +kernel
theorem d_X12_ease_5 : decode cX12_ease 5 = .ok (.aload_n 0, 1) := by decide +kernel
theorem d_X12_ease_6 : decode cX12_ease 6 = .ok (.invokevirtual 191, 3) := by decide +kernel
theorem d_X12_ease_9 : decode cX12_ease 9 = .ok (.ifCond .ne 5, 3) := by decide +kernel
theorem d_X12_ease_12 : decode cX12_ease 12 = .ok (.iconst 0, 1) := by decide +kernel
theorem d_X12_ease_13 : decode cX12_ease 13 = .ok (.ireturn, 1) := by decide +kernel
theorem d_X12_ease_14 : decode cX12_ease 14 = .ok (.iconst 0, 1) := by decide +kernel
theorem d_X12_ease_15 : decode cX12_ease 15 = .ok (.istore_n 1, 1) := by decide +kernel
theorem d_X12_ease_16 : decode cX12_ease 16 = .ok (.iconst 1, 1) := by decide +kernel
theorem d_X12_ease_17 : decode cX12_ease 17 = .ok (.istore_n 2, 1) := by decide +kernel
theorem d_X12_ease_18 : decode cX12_ease 18 = .ok (.iload_n 2, 1) := by decide +kernel
theorem d_X12_ease_19 : decode cX12_ease 19 = .ok (.aload_n 0, 1) := by decide +kernel
theorem d_X12_ease_20 : decode cX12_ease 20 = .ok (.invokevirtual 191, 3) := by decide +kernel
theorem d_X12_ease_23 : decode cX12_ease 23 = .ok (.if_icmp .ge 24, 3) := by decide +kernel
theorem d_X12_ease_26 : decode cX12_ease 26 = .ok (.aload_n 0, 1) := by decide +kernel
theorem d_X12_ease_27 : decode cX12_ease 27 = .ok (.iload_n 2, 1) := by decide +kernel
theorem d_X12_ease_28 : decode cX12_ease 28 = .ok (.invokevirtual 307, 3) := by decide +kernel
theorem d_X12_ease_31 : decode cX12_ease 31 = .ok (.aload_n 0, 1) := by decide +kernel
theorem d_X12_ease_32 : decode cX12_ease 32 = .ok (.iload_n 1, 1) := by decide +kernel
theorem d_X12_ease_33 : decode cX12_ease 33 = .ok (.invokevirtual 307, 3) := by decide +kernel
theorem d_X12_ease_36 : decode cX12_ease 36 = .ok (.if_icmp .le 5, 3) := by decide +kernel
theorem d_X12_ease_39 : decode cX12_ease 39 = .ok (.iload_n 2, 1) := by decide +kernel
theorem d_X12_ease_40 : decode cX12_ease 40 = .ok (.istore_n 1, 1) := by decide +kernel
theorem d_X12_ease_41 : decode cX12_ease 41 = .ok (.iinc 2 1, 3) := by decide +kernel
theorem d_X12_ease_44 : decode cX12_ease 44 = .ok (.goto (-26), 3) := by decide +kernel
theorem d_X12_ease_47 : decode cX12_ease 47 = .ok (.iconst 0, 1) := by decide +kernel
theorem d_X12_ease_48 : decode cX12_ease 48 = .ok (.istore_n 2, 1) := by decide +kernel
theorem d_X12_ease_49 : decode cX12_ease 49 = .ok (.iload_n 2, 1) := by decide +kernel
theorem d_X12_ease_50 : decode cX12_ease 50 = .ok (.aload_n 0, 1) := by decide +kernel
theorem d_X12_ease_51 : decode cX12_ease 51 = .ok (.invokevirtual 191, 3) := by decide +kernel
theorem d_X12_ease_54 : decode cX12_ease 54 = .ok (.if_icmp .ge 37, 3) := by decide +kernel
theorem d_X12_ease_57 : decode cX12_ease 57 = .ok (.aload_n 0, 1) := by decide +kernel
theorem d_X12_ease_58 : decode cX12_ease 58 = .ok (.getfield 140, 3) := by decide +kernel
theorem d_X12_ease_61 : decode cX12_ease 61 = .ok (.iload_n 2, 1) := by decide +kernel
theorem d_X12_ease_62 : decode cX12_ease 62 = .ok (.aload_n 0, 1) := by decide +kernel
theorem d_X12_ease_63 : decode cX12_ease 63 = .ok (.iload_n 2, 1) := by decide +kernel
theorem d_X12_ease_64 : decode cX12_ease 64 = .ok (.invokevirtual 307, 3) := by decide +kernel
theorem d_X12_ease_67 : decode cX12_ease 67 = .ok (.aload_n 0, 1) := by decide +kernel
theorem d_X12_ease_68 : decode cX12_ease 68 = .ok (.iload_n 1, 1) := by decide +kernel
theorem d_X12_ease_69 : decode cX12_ease 69 = .ok (.invokevirtual 307, 3) := by decide +kernel
theorem d_X12_ease_72 : decode cX12_ease 72 = .ok (.iconst 2, 1) := by decide +kernel
theorem d_X12_ease_73 : decode cX12_ease 73 = .ok (.isub, 1) := by decide +kernel
theorem d_X12_ease_74 : decode cX12_ease 74 = .ok (.if_icmp .gt 7, 3) := by decide +kernel
theorem d_X12_ease_77 : decode cX12_ease 77 = .ok (.iconst 0, 1) := by decide +kernel
theorem d_X12_ease_78 : decode cX12_ease 78 = .ok (.goto 6, 3) := by decide +kernel
theorem d_X12_ease_81 : decode cX12_ease 81 = .ok (.sipush 1000, 3) := by decide +kernel
theorem d_X12_ease_84 : decode cX12_ease 84 = .ok (.iastore, 1) := by decide +kernel
theorem d_X12_ease_85 : decode cX12_ease 85 = .ok (.iinc 2 1, 3) := by decide +kernel
theorem d_X12_ease_88 : decode cX12_ease 88 = .ok (.goto (-39), 3) := by decide +kernel
theorem d_X12_ease_91 : decode cX12_ease 91 = .ok (.iconst 0, 1) := by decide +kernel
theorem d_X12_ease_92 : decode cX12_ease 92 = .ok (.istore_n 2, 1) := by decide +kernel
theorem d_X12_ease_93 : decode cX12_ease 93 = .ok (.iload_n 2, 1) := by decide +kernel
theorem d_X12_ease_94 : decode cX12_ease 94 = .ok (.aload_n 0, 1) := by decide +kernel
theorem d_X12_ease_95 : decode cX12_ease 95 = .ok (.invokevirtual 191, 3) := by decide +kernel
theorem d_X12_ease_98 : decode cX12_ease 98 = .ok (.if_icmp .ge 80, 3) := by decide +kernel
theorem d_X12_ease_101 : decode cX12_ease 101 = .ok (.iconst 0, 1) := by decide +kernel
theorem d_X12_ease_102 : decode cX12_ease 102 = .ok (.istore_n 3, 1) := by decide +kernel
theorem d_X12_ease_103 : decode cX12_ease 103 = .ok (.iload_n 3, 1) := by decide +kernel
theorem d_X12_ease_104 : decode cX12_ease 104 = .ok (.aload_n 0, 1) := by decide +kernel
theorem d_X12_ease_105 : decode cX12_ease 105 = .ok (.invokevirtual 194, 3) := by decide +kernel
theorem d_X12_ease_108 : decode cX12_ease 108 = .ok (.if_icmp .ge 64, 3) := by decide +kernel
theorem d_X12_ease_111 : decode cX12_ease 111 = .ok (.aload_n 0, 1) := by decide +kernel
theorem d_X12_ease_112 : decode cX12_ease 112 = .ok (.iload_n 3, 1) := by decide +kernel
theorem d_X12_ease_113 : decode cX12_ease 113 = .ok (.invokevirtual 200, 3) := by decide +kernel
theorem d_X12_ease_116 : decode cX12_ease 116 = .ok (.ifCond .ne 50, 3) := by decide +kernel
theorem d_X12_ease_119 : decode cX12_ease 119 = .ok (.aload_n 0, 1) := by decide +kernel
theorem d_X12_ease_120 : decode cX12_ease 120 = .ok (.getfield 140, 3) := by decide +kernel
theorem d_X12_ease_123 : decode cX12_ease 123 = .ok (.aload_n 0, 1) := by decide +kernel
theorem d_X12_ease_124 : decode cX12_ease 124 = .ok (.iload_n 3, 1) := by decide +kernel
theorem d_X12_ease_125 : decode cX12_ease 125 = .ok (.invokevirtual 310, 3) := by decide +kernel
theorem d_X12_ease_128 : decode cX12_ease 128 = .ok (.iaload, 1) := by decide +kernel
theorem d_X12_ease_129 : decode cX12_ease 129 = .ok (.iconst 1, 1) := by decide +kernel
theorem d_X12_ease_130 : decode cX12_ease 130 = .ok (.iadd, 1) := by decide +kernel
theorem d_X12_ease_131 : decode cX12_ease 131 = .ok (.aload_n 0, 1) := by decide +kernel
theorem d_X12_ease_132 : decode cX12_ease 132 = .ok (.getfield 140, 3) := by decide +kernel
theorem d_X12_ease_135 : decode cX12_ease 135 = .ok (.aload_n 0, 1) := by decide +kernel
theorem d_X12_ease_136 : decode cX12_ease 136 = .ok (.iload_n 3, 1) := by decide +kernel
theorem d_X12_ease_137 : decode cX12_ease 137 = .ok (.invokevirtual 301, 3) := by decide +kernel
theorem d_X12_ease_140 : decode cX12_ease 140 = .ok (.iaload, 1) := by decide +kernel
theorem d_X12_ease_141 : decode cX12_ease 141 = .ok (.if_icmp .ge 25, 3) := by decide +kernel
theorem d_X12_ease_144 : decode cX12_ease 144 = .ok (.aload_n 0, 1) := by decide +kernel
theorem d_X12_ease_145 : decode cX12_ease 145 = .ok (.getfield 140, 3) := by decide +kernel
theorem d_X12_ease_148 : decode cX12_ease 148 = .ok (.aload_n 0, 1) := by decide +kernel
theorem d_X12_ease_149 : decode cX12_ease 149 = .ok (.iload_n 3, 1) := by decide +kernel
theorem d_X12_ease_150 : decode cX12_ease 150 = .ok (.invokevirtual 301, 3) := by decide +kernel
theorem d_X12_ease_153 : decode cX12_ease 153 = .ok (.aload_n 0, 1) := by decide +kernel
theorem d_X12_ease_154 : decode cX12_ease 154 = .ok (.getfield 140, 3) := by decide +kernel
theorem d_X12_ease_157 : decode cX12_ease 157 = .ok (.aload_n 0, 1) := by decide +kernel
theorem d_X12_ease_158 : decode cX12_ease 158 = .ok (.iload_n 3, 1) := by decide +kernel
theorem d_X12_ease_159 : decode cX12_ease 159 = .ok (.invokevirtual 310, 3) := by decide +kernel
theorem d_X12_ease_162 : decode cX12_ease 162 = .ok (.iaload, 1) := by decide +kernel
theorem d_X12_ease_163 : decode cX12_ease 163 = .ok (.iconst 1, 1) := by decide +kernel
theorem d_X12_ease_164 : decode cX12_ease 164 = .ok (.iadd, 1) := by decide +kernel
theorem d_X12_ease_165 : decode cX12_ease 165 = .ok (.iastore, 1) := by decide +kernel
theorem d_X12_ease_166 : decode cX12_ease 166 = .ok (.iinc 3 1, 3) := by decide +kernel
theorem d_X12_ease_169 : decode cX12_ease 169 = .ok (.goto (-66), 3) := by decide +kernel
theorem d_X12_ease_172 : decode cX12_ease 172 = .ok (.iinc 2 1, 3) := by decide +kernel
theorem d_X12_ease_175 : decode cX12_ease 175 = .ok (.goto (-82), 3) := by decide +kernel
theorem d_X12_ease_178 : decode cX12_ease 178 = .ok (.aload_n 0, 1) := by decide +kernel
theorem d_X12_ease_179 : decode cX12_ease 179 = .ok (.getfield 140, 3) := by decide +kernel
theorem d_X12_ease_182 : decode cX12_ease 182 = .ok (.iload_n 1, 1) := by decide +kernel
theorem d_X12_ease_183 : decode cX12_ease 183 = .ok (.iaload, 1) := by decide +kernel
theorem d_X12_ease_184 : decode cX12_ease 184 = .ok (.sipush 1000, 3) := by decide +kernel
theorem d_X12_ease_187 : decode cX12_ease 187 = .ok (.if_icmp .lt 5, 3) := by decide +kernel
theorem d_X12_ease_190 : decode cX12_ease 190 = .ok (.iconst 0, 1) := by decide +kernel
theorem d_X12_ease_191 : decode cX12_ease 191 = .ok (.ireturn, 1) := by decide +kernel
theorem d_X12_ease_192 : decode cX12_ease 192 = .ok (.aload_n 0, 1) := by decide +kernel
theorem d_X12_ease_193 : decode cX12_ease 193 = .ok (.invokevirtual 215, 3) := by decide +kernel
theorem d_X12_ease_196 : decode cX12_ease 196 = .ok (.aload_n 0, 1) := by decide +kernel
theorem d_X12_ease_197 : decode cX12_ease 197 = .ok (.getfield 140, 3) := by decide +kernel
theorem d_X12_ease_200 : decode cX12_ease 200 = .ok (.iload_n 1, 1) := by decide +kernel
theorem d_X12_ease_201 : decode cX12_ease 201 = .ok (.iaload, 1) := by decide +kernel
theorem d_X12_ease_202 : decode cX12_ease 202 = .ok (.istore_n 2, 1) := by decide +kernel
theorem d_X12_ease_203 : decode cX12_ease 203 = .ok (.iload_n 1, 1) := by decide +kernel
theorem d_X12_ease_204 : decode cX12_ease 204 = .ok (.istore_n 3, 1) := by decide +kernel
theorem d_X12_ease_205 : decode cX12_ease 205 = .ok (.iload_n 2, 1) := by decide +kernel
theorem d_X12_ease_206 : decode cX12_ease 206 = .ok (.istore 4, 2) := by decide +kernel
theorem d_X12_ease_208 : decode cX12_ease 208 = .ok (.iload 4, 2) := by decide +kernel
theorem d_X12_ease_210 : decode cX12_ease 210 = .ok (.ifCond .le 84, 3) := by decide +kernel
theorem d_X12_ease_213 : decode cX12_ease 213 = .ok (.iconst 0, 1) := by decide +kernel
theorem d_X12_ease_214 : decode cX12_ease 214 = .ok (.istore 5, 2) := by decide +kernel
theorem d_X12_ease_216 : decode cX12_ease 216 = .ok (.aload_n 0, 1) := by decide +kernel
theorem d_X12_ease_217 : decode cX12_ease 217 = .ok (.iload 5, 2) := by decide +kernel
theorem d_X12_ease_219 : decode cX12_ease 219 = .ok (.invokevirtual 200, 3) := by decide +kernel
theorem d_X12_ease_222 : decode cX12_ease 222 = .ok (.ifCond .ne 31, 3) := by decide +kernel
theorem d_X12_ease_225 : decode cX12_ease 225 = .ok (.aload_n 0, 1) := by decide +kernel
theorem d_X12_ease_226 : decode cX12_ease 226 = .ok (.iload 5, 2) := by decide +kernel
theorem d_X12_ease_228 : decode cX12_ease 228 = .ok (.invokevirtual 301, 3) := by decide +kernel
theorem d_X12_ease_231 : decode cX12_ease 231 = .ok (.iload_n 3, 1) := by decide +kernel
theorem d_X12_ease_232 : decode cX12_ease 232 = .ok (.if_icmp .ne 21, 3) := by decide +kernel
theorem d_X12_ease_235 : decode cX12_ease 235 = .ok (.aload_n 0, 1) := by decide +kernel
theorem d_X12_ease_236 : decode cX12_ease 236 = .ok (.getfield 140, 3) := by decide +kernel
theorem d_X12_ease_239 : decode cX12_ease 239 = .ok (.aload_n 0, 1) := by decide +kernel
theorem d_X12_ease_240 : decode cX12_ease 240 = .ok (.iload 5, 2) := by decide +kernel
theorem d_X12_ease_242 : decode cX12_ease 242 = .ok (.invokevirtual 310, 3) := by decide +kernel
theorem d_X12_ease_245 : decode cX12_ease 245 = .ok (.iaload, 1) := by decide +kernel
theorem d_X12_ease_246 : decode cX12_ease 246 = .ok (.iload 4, 2) := by decide +kernel
theorem d_X12_ease_248 : decode cX12_ease 248 = .ok (.iconst 1, 1) := by decide +kernel
theorem d_X12_ease_249 : decode cX12_ease 249 = .ok (.isub, 1) := by decide +kernel
theorem d_X12_ease_250 : decode cX12_ease 250 = .ok (.if_icmp .eq 9, 3) := by decide +kernel
theorem d_X12_ease_253 : decode cX12_ease 253 = .ok (.iinc 5 1, 3) := by decide +kernel
theorem d_X12_ease_256 : decode cX12_ease 256 = .ok (.goto (-40), 3) := by decide +kernel
theorem d_X12_ease_259 : decode cX12_ease 259 = .ok (.aload_n 0, 1) := by decide +kernel
theorem d_X12_ease_260 : decode cX12_ease 260 = .ok (.iload 5, 2) := by decide +kernel
theorem d_X12_ease_262 : decode cX12_ease 262 = .ok (.invokevirtual 310, 3) := by decide +kernel
theorem d_X12_ease_265 : decode cX12_ease 265 = .ok (.istore_n 3, 1) := by decide +kernel
theorem d_X12_ease_266 : decode cX12_ease 266 = .ok (.aload_n 0, 1) := by decide +kernel
theorem d_X12_ease_267 : decode cX12_ease 267 = .ok (.getfield 99, 3) := by decide +kernel
theorem d_X12_ease_270 : decode cX12_ease 270 = .ok (.bipush 123, 2) := by decide +kernel
theorem d_X12_ease_272 : decode cX12_ease 272 = .ok (.iload 5, 2) := by decide +kernel
theorem d_X12_ease_274 : decode cX12_ease 274 = .ok (.iadd, 1) := by decide +kernel
theorem d_X12_ease_275 : decode cX12_ease 275 = .ok (.iconst 1, 1) := by decide +kernel
theorem d_X12_ease_276 : decode cX12_ease 276 = .ok (.aload_n 0, 1) := by decide +kernel
theorem d_X12_ease_277 : decode cX12_ease 277 = .ok (.getfield 99, 3) := by decide +kernel
theorem d_X12_ease_280 : decode cX12_ease 280 = .ok (.bipush 123, 2) := by decide +kernel
theorem d_X12_ease_282 : decode cX12_ease 282 = .ok (.iload 5, 2) := by decide +kernel
theorem d_X12_ease_284 : decode cX12_ease 284 = .ok (.iadd, 1) := by decide +kernel
theorem d_X12_ease_285 : decode cX12_ease 285 = .ok (.iaload, 1) := by decide +kernel
theorem d_X12_ease_286 : decode cX12_ease 286 = .ok (.isub, 1) := by decide +kernel
theorem d_X12_ease_287 : decode cX12_ease 287 = .ok (.iastore, 1) := by decide +kernel
theorem d_X12_ease_288 : decode cX12_ease 288 = .ok (.iinc 4 (-1), 3) := by decide +kernel
theorem d_X12_ease_291 : decode cX12_ease 291 = .ok (.goto (-83), 3) := by decide +kernel
theorem d_X12_ease_294 : decode cX12_ease 294 = .ok (.iload_n 2, 1) := by decide +kernel
theorem d_X12_ease_295 : decode cX12_ease 295 = .ok (.ireturn, 1) := by decide +kernel
theorem d_X12_treeOf_0 : decode cX12_treeOf 0 = .ok (.aload_n 0, 1) := by decide +kernel
theorem d_X12_treeOf_1 : decode cX12_treeOf 1 = .ok (.iload_n 1, 1) := by decide +kernel
theorem d_X12_treeOf_2 : decode cX12_treeOf 2 = .ok (.invokevirtual 227, 3) := by decide +kernel
theorem d_X12_treeOf_5 : decode cX12_treeOf 5 = .ok (.aload_n 0, 1) := by decide +kernel
theorem d_X12_treeOf_6 : decode cX12_treeOf 6 = .ok (.getfield 146, 3) := by decide +kernel
theorem d_X12_treeOf_9 : decode cX12_treeOf 9 = .ok (.iconst 0, 1) := by decide +kernel
theorem d_X12_treeOf_10 : decode cX12_treeOf 10 = .ok (.iaload, 1) := by decide +kernel
theorem d_X12_treeOf_11 : decode cX12_treeOf 11 = .ok (.iconst (-1), 1) := by decide +kernel
theorem d_X12_treeOf_12 : decode cX12_treeOf 12 = .ok (.ixor, 1) := by decide +kernel
theorem d_X12_treeOf_13 : decode cX12_treeOf 13 = .ok (.iand, 1) := by decide +kernel
theorem d_X12_treeOf_14 : decode cX12_treeOf 14 = .ok (.aload_n 0, 1) := by decide +kernel
theorem d_X12_treeOf_15 : decode cX12_treeOf 15 = .ok (.getfield 146, 3) := by decide +kernel
theorem d_X12_treeOf_18 : decode cX12_treeOf 18 = .ok (.iconst 1, 1) := by decide +kernel
theorem d_X12_treeOf_19 : decode cX12_treeOf 19 = .ok (.iaload, 1) := by decide +kernel
theorem d_X12_treeOf_20 : decode cX12_treeOf 20 = .ok (.ior, 1) := by decide +kernel
theorem d_X12_treeOf_21 : decode cX12_treeOf 21 = .ok (.ireturn, 1) := by decide +kernel
theorem d_X12_answerTo_0 : decode cX12_answerTo 0 = .ok (.aload_n 0, 1) := by decide +kernel
theorem d_X12_answerTo_1 : decode cX12_answerTo 1 = .ok (.aload_n 0, 1) := by decide +kernel
theorem d_X12_answerTo_2 : decode cX12_answerTo 2 = .ok (.iload_n 1, 1) := by decide +kernel
theorem d_X12_answerTo_3 : decode cX12_answerTo 3 = .ok (.invokevirtual 203, 3) := by decide +kernel
theorem d_X12_answerTo_6 : decode cX12_answerTo 6 = .ok (.invokevirtual 313, 3) := by decide +kernel
theorem d_X12_answerTo_9 : decode cX12_answerTo 9 = .ok (.iconst 1, 1) := by decide +kernel
theorem d_X12_answerTo_10 : decode cX12_answerTo 10 = .ok (.iload_n 1, 1) := by decide +kernel
theorem d_X12_answerTo_11 : decode cX12_answerTo 11 = .ok (.ishl, 1) := by decide +kernel
theorem d_X12_answerTo_12 : decode cX12_answerTo 12 = .ok (.iconst (-1), 1) := by decide +kernel
theorem d_X12_answerTo_13 : decode cX12_answerTo 13 = .ok (.ixor, 1) := by decide +kernel
theorem d_X12_answerTo_14 : decode cX12_answerTo 14 = .ok (.iand, 1) := by decide +kernel
theorem d_X12_answerTo_15 : decode cX12_answerTo 15 = .ok (.istore_n 2, 1) := by decide +kernel
theorem d_X12_answerTo_16 : decode cX12_answerTo 16 = .ok (.aload_n 0, 1) := by decide +kernel
theorem d_X12_answerTo_17 : decode cX12_answerTo 17 = .ok (.aload_n 0, 1) := by decide +kernel
theorem d_X12_answerTo_18 : decode cX12_answerTo 18 = .ok (.getfield 99, 3) := by decide +kernel
theorem d_X12_answerTo_21 : decode cX12_answerTo 21 = .ok (.iconst 3, 1) := by decide +kernel
theorem d_X12_answerTo_22 : decode cX12_answerTo 22 = .ok (.iload_n 1, 1) := by decide +kernel
theorem d_X12_answerTo_23 : decode cX12_answerTo 23 = .ok (.iadd, 1) := by decide +kernel
theorem d_X12_answerTo_24 : decode cX12_answerTo 24 = .ok (.iaload, 1) := by decide +kernel
theorem d_X12_answerTo_25 : decode cX12_answerTo 25 = .ok (.iload_n 2, 1) := by decide +kernel
theorem d_X12_answerTo_26 : decode cX12_answerTo 26 = .ok (.invokevirtual 212, 3) := by decide +kernel
theorem d_X12_answerTo_29 : decode cX12_answerTo 29 = .ok (.istore_n 3, 1) := by decide +kernel
theorem d_X12_answerTo_30 : decode cX12_answerTo 30 = .ok (.iconst 0, 1) := by decide +kernel
theorem d_X12_answerTo_31 : decode cX12_answerTo 31 = .ok (.istore 4, 2) := by decide +kernel
theorem d_X12_answerTo_33 : decode cX12_answerTo 33 = .ok (.iload 4, 2) := by decide +kernel
theorem d_X12_answerTo_35 : decode cX12_answerTo 35 = .ok (.aload_n 0, 1) := by decide +kernel
theorem d_X12_answerTo_36 : decode cX12_answerTo 36 = .ok (.invokevirtual 194, 3) := by decide +kernel
theorem d_X12_answerTo_39 : decode cX12_answerTo 39 = .ok (.if_icmp .ge 79, 3) := by decide +kernel
theorem d_X12_answerTo_42 : decode cX12_answerTo 42 = .ok (.aload_n 0, 1) := by decide +kernel
theorem d_X12_answerTo_43 : decode cX12_answerTo 43 = .ok (.iload 4, 2) := by decide +kernel
theorem d_X12_answerTo_45 : decode cX12_answerTo 45 = .ok (.invokevirtual 203, 3) := by decide +kernel
theorem d_X12_answerTo_48 : decode cX12_answerTo 48 = .ok (.iconst 1, 1) := by decide +kernel
theorem d_X12_answerTo_49 : decode cX12_answerTo 49 = .ok (.aload_n 0, 1) := by decide +kernel
theorem d_X12_answerTo_50 : decode cX12_answerTo 50 = .ok (.iload_n 1, 1) := by decide +kernel
theorem d_X12_answerTo_51 : decode cX12_answerTo 51 = .ok (.invokevirtual 203, 3) := by decide +kernel
theorem d_X12_answerTo_54 : decode cX12_answerTo 54 = .ok (.isub, 1) := by decide +kernel
theorem d_X12_answerTo_55 : decode cX12_answerTo 55 = .ok (.if_icmp .ne 57, 3) := by decide +kernel
theorem d_X12_answerTo_58 : decode cX12_answerTo 58 = .ok (.aload_n 0, 1) := by decide +kernel
theorem d_X12_answerTo_59 : decode cX12_answerTo 59 = .ok (.getfield 146, 3) := by decide +kernel
theorem d_X12_answerTo_62 : decode cX12_answerTo 62 = .ok (.iconst 0, 1) := by decide +kernel
theorem d_X12_answerTo_63 : decode cX12_answerTo 63 = .ok (.iaload, 1) := by decide +kernel
theorem d_X12_answerTo_64 : decode cX12_answerTo 64 = .ok (.aload_n 0, 1) := by decide +kernel
theorem d_X12_answerTo_65 : decode cX12_answerTo 65 = .ok (.getfield 146, 3) := by decide +kernel
theorem d_X12_answerTo_68 : decode cX12_answerTo 68 = .ok (.iconst 1, 1) := by decide +kernel
theorem d_X12_answerTo_69 : decode cX12_answerTo 69 = .ok (.iaload, 1) := by decide +kernel
theorem d_X12_answerTo_70 : decode cX12_answerTo 70 = .ok (.ior, 1) := by decide +kernel
theorem d_X12_answerTo_71 : decode cX12_answerTo 71 = .ok (.iload 4, 2) := by decide +kernel
theorem d_X12_answerTo_73 : decode cX12_answerTo 73 = .ok (.invokestatic 206, 3) := by decide +kernel
theorem d_X12_answerTo_76 : decode cX12_answerTo 76 = .ok (.ifCond .ne 36, 3) := by decide +kernel
theorem d_X12_answerTo_79 : decode cX12_answerTo 79 = .ok (.iload_n 3, 1) := by decide +kernel
theorem d_X12_answerTo_80 : decode cX12_answerTo 80 = .ok (.aload_n 0, 1) := by decide +kernel
theorem d_X12_answerTo_81 : decode cX12_answerTo 81 = .ok (.getfield 99, 3) := by decide +kernel
theorem d_X12_answerTo_84 : decode cX12_answerTo 84 = .ok (.iconst 3, 1) := by decide +kernel
theorem d_X12_answerTo_85 : decode cX12_answerTo 85 = .ok (.iload 4, 2) := by decide +kernel
theorem d_X12_answerTo_87 : decode cX12_answerTo 87 = .ok (.iadd, 1) := by decide +kernel
theorem d_X12_answerTo_88 : decode cX12_answerTo 88 = .ok (.iaload, 1) := by decide +kernel
theorem d_X12_answerTo_89 : decode cX12_answerTo 89 = .ok (.invokestatic 206, 3) := by decide +kernel
theorem d_X12_answerTo_92 : decode cX12_answerTo 92 = .ok (.iload_n 3, 1) := by decide +kernel
theorem d_X12_answerTo_93 : decode cX12_answerTo 93 = .ok (.aload_n 0, 1) := by decide +kernel
theorem d_X12_answerTo_94 : decode cX12_answerTo 94 = .ok (.getfield 99, 3) := by decide +kernel
theorem d_X12_answerTo_97 : decode cX12_answerTo 97 = .ok (.bipush 27, 2) := by decide +kernel
theorem d_X12_answerTo_99 : decode cX12_answerTo 99 = .ok (.iload 4, 2) := by decide +kernel
theorem d_X12_answerTo_101 : decode cX12_answerTo 101 = .ok (.iadd, 1) := by decide +kernel
theorem d_X12_answerTo_102 : decode cX12_answerTo 102 = .ok (.iaload, 1) := by decide +kernel
theorem d_X12_answerTo_103 : decode cX12_answerTo 103 = .ok (.invokestatic 206, 3) := by decide +kernel
theorem d_X12_answerTo_106 : decode cX12_answerTo 106 = .ok (.if_icmp .eq 6, 3) := by decide +kernel
theorem d_X12_answerTo_109 : decode cX12_answerTo 109 = .ok (.iload 4, 2) := by decide +kernel
theorem d_X12_answerTo_111 : decode cX12_answerTo 111 = .ok (.ireturn, 1) := by decide +kernel
theorem d_X12_answerTo_112 : decode cX12_answerTo 112 = .ok (.iinc 4 1, 3) := by decide +kernel
theorem d_X12_answerTo_115 : decode cX12_answerTo 115 = .ok (.goto (-82), 3) := by decide +kernel
theorem d_X12_answerTo_118 : decode cX12_answerTo 118 = .ok (.iconst (-1), 1) := by decide +kernel
theorem d_X12_answerTo_119 : decode cX12_answerTo 119 = .ok (.ireturn, 1) := by decide +kernel
theorem d_X12_game_0 : decode cX12_game 0 = .ok (.aload_n 0, 1) := by decide +kernel
theorem d_X12_game_1 : decode cX12_game 1 = .ok (.iconst 0, 1) := by decide +kernel
theorem d_X12_game_2 : decode cX12_game 2 = .ok (.putfield 1, 3) := by decide +kernel
theorem d_X12_game_5 : decode cX12_game 5 = .ok (.aload_n 0, 1) := by decide +kernel
theorem d_X12_game_6 : decode cX12_game 6 = .ok (.getfield 15, 3) := by decide +kernel
theorem d_X12_game_9 : decode cX12_game 9 = .ok (.istore_n 1, 1) := by decide +kernel
theorem d_X12_game_10 : decode cX12_game 10 = .ok (.aload_n 0, 1) := by decide +kernel
theorem d_X12_game_11 : decode cX12_game 11 = .ok (.iconst 0, 1) := by decide +kernel
theorem d_X12_game_12 : decode cX12_game 12 = .ok (.putfield 15, 3) := by decide +kernel
theorem d_X12_game_15 : decode cX12_game 15 = .ok (.aload_n 0, 1) := by decide +kernel
theorem d_X12_game_16 : decode cX12_game 16 = .ok (.invokevirtual 191, 3) := by decide +kernel
theorem d_X12_game_19 : decode cX12_game 19 = .ok (.iconst 2, 1) := by decide +kernel
theorem d_X12_game_20 : decode cX12_game 20 = .ok (.if_icmp .lt 45, 3) := by decide +kernel
theorem d_X12_game_23 : decode cX12_game 23 = .ok (.aload_n 0, 1) := by decide +kernel
theorem d_X12_game_24 : decode cX12_game 24 = .ok (.invokevirtual 197, 3) := by decide +kernel
theorem d_X12_game_27 : decode cX12_game 27 = .ok (.iconst 2, 1) := by decide +kernel
theorem d_X12_game_28 : decode cX12_game 28 = .ok (.if_icmp .lt 37, 3) := by decide +kernel
theorem d_X12_game_31 : decode cX12_game 31 = .ok (.aload_n 0, 1) := by decide +kernel
theorem d_X12_game_32 : decode cX12_game 32 = .ok (.iconst 0, 1) := by decide +kernel
theorem d_X12_game_33 : decode cX12_game 33 = .ok (.invokevirtual 227, 3) := by decide +kernel
theorem d_X12_game_36 : decode cX12_game 36 = .ok (.invokestatic 236, 3) := by decide +kernel
theorem d_X12_game_39 : decode cX12_game 39 = .ok (.aload_n 0, 1) := by decide +kernel
theorem d_X12_game_40 : decode cX12_game 40 = .ok (.invokevirtual 191, 3) := by decide +kernel
theorem d_X12_game_43 : decode cX12_game 43 = .ok (.iconst 1, 1) := by decide +kernel
theorem d_X12_game_44 : decode cX12_game 44 = .ok (.isub, 1) := by decide +kernel
theorem d_X12_game_45 : decode cX12_game 45 = .ok (.if_icmp .ne 20, 3) := by decide +kernel
theorem d_X12_game_48 : decode cX12_game 48 = .ok (.aload_n 0, 1) := by decide +kernel
theorem d_X12_game_49 : decode cX12_game 49 = .ok (.iconst 1, 1) := by decide +kernel
theorem d_X12_game_50 : decode cX12_game 50 = .ok (.invokevirtual 227, 3) := by decide +kernel
theorem d_X12_game_53 : decode cX12_game 53 = .ok (.invokestatic 236, 3) := by decide +kernel
theorem d_X12_game_56 : decode cX12_game 56 = .ok (.aload_n 0, 1) := by decide +kernel
theorem d_X12_game_57 : decode cX12_game 57 = .ok (.invokevirtual 191, 3) := by decide +kernel
theorem d_X12_game_60 : decode cX12_game 60 = .ok (.iconst 1, 1) := by decide +kernel
theorem d_X12_game_61 : decode cX12_game 61 = .ok (.isub, 1) := by decide +kernel
theorem d_X12_game_62 : decode cX12_game 62 = .ok (.if_icmp .eq 5, 3) := by decide +kernel
theorem d_X12_game_65 : decode cX12_game 65 = .ok (.iconst (-1), 1) := by decide +kernel
theorem d_X12_game_66 : decode cX12_game 66 = .ok (.ireturn, 1) := by decide +kernel
theorem d_X12_game_67 : decode cX12_game 67 = .ok (.aload_n 0, 1) := by decide +kernel
theorem d_X12_game_68 : decode cX12_game 68 = .ok (.getfield 146, 3) := by decide +kernel
theorem d_X12_game_71 : decode cX12_game 71 = .ok (.iconst 0, 1) := by decide +kernel
theorem d_X12_game_72 : decode cX12_game 72 = .ok (.iconst 0, 1) := by decide +kernel
theorem d_X12_game_73 : decode cX12_game 73 = .ok (.iastore, 1) := by decide +kernel
theorem d_X12_game_74 : decode cX12_game 74 = .ok (.aload_n 0, 1) := by decide +kernel
theorem d_X12_game_75 : decode cX12_game 75 = .ok (.getfield 146, 3) := by decide +kernel
theorem d_X12_game_78 : decode cX12_game 78 = .ok (.iconst 1, 1) := by decide +kernel
theorem d_X12_game_79 : decode cX12_game 79 = .ok (.iconst 0, 1) := by decide +kernel
theorem d_X12_game_80 : decode cX12_game 80 = .ok (.iastore, 1) := by decide +kernel
theorem d_X12_game_81 : decode cX12_game 81 = .ok (.aload_n 0, 1) := by decide +kernel
theorem d_X12_game_82 : decode cX12_game 82 = .ok (.iconst 0, 1) := by decide +kernel
theorem d_X12_game_83 : decode cX12_game 83 = .ok (.putfield 316, 3) := by decide +kernel
theorem d_X12_game_86 : decode cX12_game 86 = .ok (.iconst 0, 1) := by decide +kernel
theorem d_X12_game_87 : decode cX12_game 87 = .ok (.istore_n 2, 1) := by decide +kernel
theorem d_X12_game_88 : decode cX12_game 88 = .ok (.iload_n 2, 1) := by decide +kernel
theorem d_X12_game_89 : decode cX12_game 89 = .ok (.iload_n 1, 1) := by decide +kernel
theorem d_X12_game_90 : decode cX12_game 90 = .ok (.if_icmp .ge 124, 3) := by decide +kernel
theorem d_X12_game_93 : decode cX12_game 93 = .ok (.aload_n 0, 1) := by decide +kernel
theorem d_X12_game_94 : decode cX12_game 94 = .ok (.getfield 11, 3) := by decide +kernel
theorem d_X12_game_97 : decode cX12_game 97 = .ok (.iload_n 2, 1) := by decide +kernel
theorem d_X12_game_98 : decode cX12_game 98 = .ok (.iaload, 1) := by decide +kernel
theorem d_X12_game_99 : decode cX12_game 99 = .ok (.istore_n 3, 1) := by decide +kernel
theorem d_X12_game_100 : decode cX12_game 100 = .ok (.iload_n 3, 1) := by decide +kernel
theorem d_X12_game_101 : decode cX12_game 101 = .ok (.aload_n 0, 1) := by decide +kernel
theorem d_X12_game_102 : decode cX12_game 102 = .ok (.invokevirtual 194, 3) := by decide +kernel
theorem d_X12_game_105 : decode cX12_game 105 = .ok (.if_icmp .ge 109, 3) := by decide +kernel
theorem d_X12_game_108 : decode cX12_game 108 = .ok (.aload_n 0, 1) := by decide +kernel
theorem d_X12_game_109 : decode cX12_game 109 = .ok (.iload_n 3, 1) := by decide +kernel
theorem d_X12_game_110 : decode cX12_game 110 = .ok (.invokevirtual 203, 3) := by decide +kernel
theorem d_X12_game_113 : decode cX12_game 113 = .ok (.iconst (-1), 1) := by decide +kernel
theorem d_X12_game_114 : decode cX12_game 114 = .ok (.if_icmp .eq 100, 3) := by decide +kernel
theorem d_X12_game_117 : decode cX12_game 117 = .ok (.aload_n 0, 1) := by decide +kernel
theorem d_X12_game_118 : decode cX12_game 118 = .ok (.iload_n 3, 1) := by decide +kernel
theorem d_X12_game_119 : decode cX12_game 119 = .ok (.invokevirtual 203, 3) := by decide +kernel
theorem d_X12_game_122 : decode cX12_game 122 = .ok (.iconst 1, 1) := by decide +kernel
theorem d_X12_game_123 : decode cX12_game 123 = .ok (.if_icmp .gt 91, 3) := by decide +kernel
theorem d_X12_game_126 : decode cX12_game 126 = .ok (.aload_n 0, 1) := by decide +kernel
theorem d_X12_game_127 : decode cX12_game 127 = .ok (.getfield 146, 3) := by decide +kernel
theorem d_X12_game_130 : decode cX12_game 130 = .ok (.iconst 0, 1) := by decide +kernel
theorem d_X12_game_131 : decode cX12_game 131 = .ok (.iaload, 1) := by decide +kernel
theorem d_X12_game_132 : decode cX12_game 132 = .ok (.aload_n 0, 1) := by decide +kernel
theorem d_X12_game_133 : decode cX12_game 133 = .ok (.getfield 146, 3) := by decide +kernel
theorem d_X12_game_136 : decode cX12_game 136 = .ok (.iconst 1, 1) := by decide +kernel
theorem d_X12_game_137 : decode cX12_game 137 = .ok (.iaload, 1) := by decide +kernel
theorem d_X12_game_138 : decode cX12_game 138 = .ok (.ior, 1) := by decide +kernel
theorem d_X12_game_139 : decode cX12_game 139 = .ok (.iload_n 3, 1) := by decide +kernel
theorem d_X12_game_140 : decode cX12_game 140 = .ok (.invokestatic 206, 3) := by decide +kernel
theorem d_X12_game_143 : decode cX12_game 143 = .ok (.ifCond .eq 6, 3) := by decide +kernel
theorem d_X12_game_146 : decode cX12_game 146 = .ok (.goto 68, 3) := by decide +kernel
theorem d_X12_game_149 : decode cX12_game 149 = .ok (.aload_n 0, 1) := by decide +kernel
theorem d_X12_game_150 : decode cX12_game 150 = .ok (.iload_n 3, 1) := by decide +kernel
theorem d_X12_game_151 : decode cX12_game 151 = .ok (.invokevirtual 319, 3) := by decide +kernel
theorem d_X12_game_154 : decode cX12_game 154 = .ok (.istore 4, 2) := by decide +kernel
theorem d_X12_game_156 : decode cX12_game 156 = .ok (.aload_n 0, 1) := by decide +kernel
theorem d_X12_game_157 : decode cX12_game 157 = .ok (.getfield 146, 3) := by decide +kernel
theorem d_X12_game_160 : decode cX12_game 160 = .ok (.iconst 0, 1) := by decide +kernel
theorem d_X12_game_161 : decode cX12_game 161 = .ok (.dup2, 1) := by decide +kernel
theorem d_X12_game_162 : decode cX12_game 162 = .ok (.iaload, 1) := by decide +kernel
theorem d_X12_game_163 : decode cX12_game 163 = .ok (.iconst 1, 1) := by decide +kernel
theorem d_X12_game_164 : decode cX12_game 164 = .ok (.iload_n 3, 1) := by decide +kernel
theorem d_X12_game_165 : decode cX12_game 165 = .ok (.ishl, 1) := by decide +kernel
theorem d_X12_game_166 : decode cX12_game 166 = .ok (.ior, 1) := by decide +kernel
theorem d_X12_game_167 : decode cX12_game 167 = .ok (.iastore, 1) := by decide +kernel
theorem d_X12_game_168 : decode cX12_game 168 = .ok (.iload 4, 2) := by decide +kernel
theorem d_X12_game_170 : decode cX12_game 170 = .ok (.iconst (-1), 1) := by decide +kernel
theorem d_X12_game_171 : decode cX12_game 171 = .ok (.if_icmp .eq 16, 3) := by decide +kernel
theorem d_X12_game_174 : decode cX12_game 174 = .ok (.aload_n 0, 1) := by decide +kernel
theorem d_X12_game_175 : decode cX12_game 175 = .ok (.getfield 146, 3) := by decide +kernel
theorem d_X12_game_178 : decode cX12_game 178 = .ok (.iconst 1, 1) := by decide +kernel
theorem d_X12_game_179 : decode cX12_game 179 = .ok (.dup2, 1) := by decide +kernel
theorem d_X12_game_180 : decode cX12_game 180 = .ok (.iaload, 1) := by decide +kernel
theorem d_X12_game_181 : decode cX12_game 181 = .ok (.iconst 1, 1) := by decide +kernel
theorem d_X12_game_182 : decode cX12_game 182 = .ok (.iload 4, 2) := by decide +kernel
theorem d_X12_game_184 : decode cX12_game 184 = .ok (.ishl, 1) := by decide +kernel
theorem d_X12_game_185 : decode cX12_game 185 = .ok (.ior, 1) := by decide +kernel
theorem d_X12_game_186 : decode cX12_game 186 = .ok (.iastore, 1) := by decide +kernel
theorem d_X12_game_187 : decode cX12_game 187 = .ok (.aload_n 0, 1) := by decide +kernel
theorem d_X12_game_188 : decode cX12_game 188 = .ok (.getfield 143, 3) := by decide +kernel
theorem d_X12_game_191 : decode cX12_game 191 = .ok (.aload_n 0, 1) := by decide +kernel
theorem d_X12_game_192 : decode cX12_game 192 = .ok (.getfield 316, 3) := by decide +kernel
theorem d_X12_game_195 : decode cX12_game 195 = .ok (.iload 4, 2) := by decide +kernel
theorem d_X12_game_197 : decode cX12_game 197 = .ok (.iastore, 1) := by decide +kernel
theorem d_X12_game_198 : decode cX12_game 198 = .ok (.aload_n 0, 1) := by decide +kernel
theorem d_X12_game_199 : decode cX12_game 199 = .ok (.dup, 1) := by decide +kernel
theorem d_X12_game_200 : decode cX12_game 200 = .ok (.getfield 316, 3) := by decide +kernel
theorem d_X12_game_203 : decode cX12_game 203 = .ok (.iconst 1, 1) := by decide +kernel
theorem d_X12_game_204 : decode cX12_game 204 = .ok (.iadd, 1) := by decide +kernel
theorem d_X12_game_205 : decode cX12_game 205 = .ok (.putfield 316, 3) := by decide +kernel
theorem d_X12_game_208 : decode cX12_game 208 = .ok (.iinc 2 1, 3) := by decide +kernel
theorem d_X12_game_211 : decode cX12_game 211 = .ok (.goto (-123), 3) := by decide +kernel
theorem d_X12_game_214 : decode cX12_game 214 = .ok (.aload_n 0, 1) := by decide +kernel
theorem d_X12_game_215 : decode cX12_game 215 = .ok (.getfield 316, 3) := by decide +kernel
theorem d_X12_game_218 : decode cX12_game 218 = .ok (.ireturn, 1) := by decide +kernel
theorem d_X12_keptAt_0 : decode cX12_keptAt 0 = .ok (.aload_n 0, 1) := by decide +kernel
theorem d_X12_keptAt_1 : decode cX12_keptAt 1 = .ok (.iconst 0, 1) := by decide +kernel
theorem d_X12_keptAt_2 : decode cX12_keptAt 2 = .ok (.putfield 1, 3) := by decide +kernel
theorem d_X12_keptAt_5 : decode cX12_keptAt 5 = .ok (.iload_n 1, 1) := by decide +kernel
theorem d_X12_keptAt_6 : decode cX12_keptAt 6 = .ok (.iconst 0, 1) := by decide +kernel
theorem d_X12_keptAt_7 : decode cX12_keptAt 7 = .ok (.aload_n 0, 1) := by decide +kernel
theorem d_X12_keptAt_8 : decode cX12_keptAt 8 = .ok (.getfield 316, 3) := by decide +kernel
theorem d_X12_keptAt_11 : decode cX12_keptAt 11 = .ok (.iconst 1, 1) := by decide +kernel
theorem d_X12_keptAt_12 : decode cX12_keptAt 12 = .ok (.isub, 1) := by decide +kernel
theorem d_X12_keptAt_13 : decode cX12_keptAt 13 = .ok (.invokestatic 83, 3) := by decide +kernel
theorem d_X12_keptAt_16 : decode cX12_keptAt 16 = .ok (.ifCond .eq 12, 3) := by decide +kernel
theorem d_X12_keptAt_19 : decode cX12_keptAt 19 = .ok (.aload_n 0, 1) := by decide +kernel
theorem d_X12_keptAt_20 : decode cX12_keptAt 20 = .ok (.getfield 143, 3) := by decide +kernel
theorem d_X12_keptAt_23 : decode cX12_keptAt 23 = .ok (.iload_n 1, 1) := by decide +kernel
theorem d_X12_keptAt_24 : decode cX12_keptAt 24 = .ok (.iaload, 1) := by decide +kernel
theorem d_X12_keptAt_25 : decode cX12_keptAt 25 = .ok (.goto 4, 3) := by decide +kernel
theorem d_X12_keptAt_28 : decode cX12_keptAt 28 = .ok (.iconst (-1), 1) := by decide +kernel
theorem d_X12_keptAt_29 : decode cX12_keptAt 29 = .ok (.ireturn, 1) := by decide +kernel
theorem d_X12_undo_0 : decode cX12_undo 0 = .ok (.aload_n 0, 1) := by decide +kernel
theorem d_X12_undo_1 : decode cX12_undo 1 = .ok (.iconst 0, 1) := by decide +kernel
theorem d_X12_undo_2 : decode cX12_undo 2 = .ok (.putfield 1, 3) := by decide +kernel
theorem d_X12_undo_5 : decode cX12_undo 5 = .ok (.aload_n 0, 1) := by decide +kernel
theorem d_X12_undo_6 : decode cX12_undo 6 = .ok (.getfield 188, 3) := by decide +kernel
theorem d_X12_undo_9 : decode cX12_undo 9 = .ok (.ifCond .ne 5, 3) := by decide +kernel
theorem d_X12_undo_12 : decode cX12_undo 12 = .ok (.iconst (-1), 1) := by decide +kernel
theorem d_X12_undo_13 : decode cX12_undo 13 = .ok (.ireturn, 1) := by decide +kernel
theorem d_X12_undo_14 : decode cX12_undo 14 = .ok (.aload_n 0, 1) := by decide +kernel
theorem d_X12_undo_15 : decode cX12_undo 15 = .ok (.dup, 1) := by decide +kernel
theorem d_X12_undo_16 : decode cX12_undo 16 = .ok (.getfield 188, 3) := by decide +kernel
theorem d_X12_undo_19 : decode cX12_undo 19 = .ok (.iconst 1, 1) := by decide +kernel
theorem d_X12_undo_20 : decode cX12_undo 20 = .ok (.isub, 1) := by decide +kernel
theorem d_X12_undo_21 : decode cX12_undo 21 = .ok (.putfield 188, 3) := by decide +kernel
theorem d_X12_undo_24 : decode cX12_undo 24 = .ok (.aload_n 0, 1) := by decide +kernel
theorem d_X12_undo_25 : decode cX12_undo 25 = .ok (.getfield 108, 3) := by decide +kernel
theorem d_X12_undo_28 : decode cX12_undo 28 = .ok (.sipush 147, 3) := by decide +kernel
theorem d_X12_undo_31 : decode cX12_undo 31 = .ok (.aload_n 0, 1) := by decide +kernel
theorem d_X12_undo_32 : decode cX12_undo 32 = .ok (.getfield 188, 3) := by decide +kernel
theorem d_X12_undo_35 : decode cX12_undo 35 = .ok (.imul, 1) := by decide +kernel
theorem d_X12_undo_36 : decode cX12_undo 36 = .ok (.aload_n 0, 1) := by decide +kernel
theorem d_X12_undo_37 : decode cX12_undo 37 = .ok (.getfield 99, 3) := by decide +kernel
theorem d_X12_undo_40 : decode cX12_undo 40 = .ok (.iconst 0, 1) := by decide +kernel
theorem d_X12_undo_41 : decode cX12_undo 41 = .ok (.invokestatic 184, 3) := by decide +kernel
theorem d_X12_undo_44 : decode cX12_undo 44 = .ok (.aload_n 0, 1) := by decide +kernel
theorem d_X12_undo_45 : decode cX12_undo 45 = .ok (.getfield 188, 3) := by decide +kernel
theorem d_X12_undo_48 : decode cX12_undo 48 = .ok (.ireturn, 1) := by decide +kernel
theorem d_X12_isCount_0 : decode cX12_isCount 0 = .ok (.iload_n 0, 1) := by decide +kernel
theorem d_X12_isCount_1 : decode cX12_isCount 1 = .ok (.iconst 0, 1) := by decide +kernel
theorem d_X12_isCount_2 : decode cX12_isCount 2 = .ok (.bipush 24, 2) := by decide +kernel
theorem d_X12_isCount_4 : decode cX12_isCount 4 = .ok (.invokestatic 83, 3) := by decide +kernel
theorem d_X12_isCount_7 : decode cX12_isCount 7 = .ok (.ireturn, 1) := by decide +kernel
theorem d_X12_inner_0 : decode cX12_inner 0 = .ok (.iconst 0, 1) := by decide +kernel
theorem d_X12_inner_1 : decode cX12_inner 1 = .ok (.istore_n 3, 1) := by decide +kernel
theorem d_X12_inner_2 : decode cX12_inner 2 = .ok (.iconst 0, 1) := by decide +kernel
theorem d_X12_inner_3 : decode cX12_inner 3 = .ok (.istore 4, 2) := by decide +kernel
theorem d_X12_inner_5 : decode cX12_inner 5 = .ok (.iload 4, 2) := by decide +kernel
theorem d_X12_inner_7 : decode cX12_inner 7 = .ok (.aload_n 0, 1) := by decide +kernel
theorem d_X12_inner_8 : decode cX12_inner 8 = .ok (.invokevirtual 194, 3) := by decide +kernel
theorem d_X12_inner_11 : decode cX12_inner 11 = .ok (.if_icmp .ge 34, 3) := by decide +kernel
theorem d_X12_inner_14 : decode cX12_inner 14 = .ok (.iload_n 2, 1) := by decide +kernel
theorem d_X12_inner_15 : decode cX12_inner 15 = .ok (.iload 4, 2) := by decide +kernel
theorem d_X12_inner_17 : decode cX12_inner 17 = .ok (.invokestatic 206, 3) := by decide +kernel
theorem d_X12_inner_20 : decode cX12_inner 20 = .ok (.ifCond .eq 19, 3) := by decide +kernel
theorem d_X12_inner_23 : decode cX12_inner 23 = .ok (.aload_n 0, 1) := by decide +kernel
theorem d_X12_inner_24 : decode cX12_inner 24 = .ok (.iload 4, 2) := by decide +kernel
theorem d_X12_inner_26 : decode cX12_inner 26 = .ok (.invokevirtual 209, 3) := by decide +kernel
theorem d_X12_inner_29 : decode cX12_inner 29 = .ok (.iload_n 1, 1) := by decide +kernel
theorem d_X12_inner_30 : decode cX12_inner 30 = .ok (.iconst (-1), 1) := by decide +kernel
theorem d_X12_inner_31 : decode cX12_inner 31 = .ok (.ixor, 1) := by decide +kernel
theorem d_X12_inner_32 : decode cX12_inner 32 = .ok (.iand, 1) := by decide +kernel
theorem d_X12_inner_33 : decode cX12_inner 33 = .ok (.ifCond .ne 6, 3) := by decide +kernel
theorem d_X12_inner_36 : decode cX12_inner 36 = .ok (.iinc 3 1, 3) := by decide +kernel
theorem d_X12_inner_39 : decode cX12_inner 39 = .ok (.iinc 4 1, 3) := by decide +kernel
theorem d_X12_inner_42 : decode cX12_inner 42 = .ok (.goto (-37), 3) := by decide +kernel
theorem d_X12_inner_45 : decode cX12_inner 45 = .ok (.iload_n 3, 1) := by decide +kernel
theorem d_X12_inner_46 : decode cX12_inner 46 = .ok (.ireturn, 1) := by decide +kernel
theorem d_X12_canJoin_0 : decode cX12_canJoin 0 = .ok (.iconst 1, 1) := by decide +kernel
theorem d_X12_canJoin_1 : decode cX12_canJoin 1 = .ok (.istore 4, 2) := by decide +kernel
theorem d_X12_canJoin_3 : decode cX12_canJoin 3 = .ok (.iload 4, 2) := by decide +kernel
theorem d_X12_canJoin_5 : decode cX12_canJoin 5 = .ok (.iconst 1, 1) := by decide +kernel
theorem d_X12_canJoin_6 : decode cX12_canJoin 6 = .ok (.aload_n 0, 1) := by decide +kernel
theorem d_X12_canJoin_7 : decode cX12_canJoin 7 = .ok (.invokevirtual 191, 3) := by decide +kernel
theorem d_X12_canJoin_10 : decode cX12_canJoin 10 = .ok (.ishl, 1) := by decide +kernel
theorem d_X12_canJoin_11 : decode cX12_canJoin 11 = .ok (.if_icmp .ge 47, 3) := by decide +kernel
theorem d_X12_canJoin_14 : decode cX12_canJoin 14 = .ok (.aload_n 0, 1) := by decide +kernel
theorem d_X12_canJoin_15 : decode cX12_canJoin 15 = .ok (.iload_n 1, 1) := by decide +kernel
theorem d_X12_canJoin_16 : decode cX12_canJoin 16 = .ok (.invokevirtual 209, 3) := by decide +kernel
theorem d_X12_canJoin_19 : decode cX12_canJoin 19 = .ok (.iload 4, 2) := by decide +kernel
theorem d_X12_canJoin_21 : decode cX12_canJoin 21 = .ok (.iconst (-1), 1) := by decide +kernel
theorem d_X12_canJoin_22 : decode cX12_canJoin 22 = .ok (.ixor, 1) := by decide +kernel
theorem d_X12_canJoin_23 : decode cX12_canJoin 23 = .ok (.iand, 1) := by decide +kernel
theorem d_X12_canJoin_24 : decode cX12_canJoin 24 = .ok (.ifCond .ne 28, 3) := by decide +kernel
theorem d_X12_canJoin_27 : decode cX12_canJoin 27 = .ok (.aload_n 0, 1) := by decide +kernel
theorem d_X12_canJoin_28 : decode cX12_canJoin 28 = .ok (.iload 4, 2) := by decide +kernel
theorem d_X12_canJoin_30 : decode cX12_canJoin 30 = .ok (.iload_n 2, 1) := by decide +kernel
theorem d_X12_canJoin_31 : decode cX12_canJoin 31 = .ok (.iconst 1, 1) := by decide +kernel
theorem d_X12_canJoin_32 : decode cX12_canJoin 32 = .ok (.iload_n 1, 1) := by decide +kernel
theorem d_X12_canJoin_33 : decode cX12_canJoin 33 = .ok (.ishl, 1) := by decide +kernel
theorem d_X12_canJoin_34 : decode cX12_canJoin 34 = .ok (.ior, 1) := by decide +kernel
theorem d_X12_canJoin_35 : decode cX12_canJoin 35 = .ok (.invokevirtual 322, 3) := by decide +kernel
theorem d_X12_canJoin_38 : decode cX12_canJoin 38 = .ok (.iload_n 3, 1) := by decide +kernel
theorem d_X12_canJoin_39 : decode cX12_canJoin 39 = .ok (.iload 4, 2) := by decide +kernel
theorem d_X12_canJoin_41 : decode cX12_canJoin 41 = .ok (.invokestatic 236, 3) := by decide +kernel
theorem d_X12_canJoin_44 : decode cX12_canJoin 44 = .ok (.iconst 1, 1) := by decide +kernel
theorem d_X12_canJoin_45 : decode cX12_canJoin 45 = .ok (.isub, 1) := by decide +kernel
theorem d_X12_canJoin_46 : decode cX12_canJoin 46 = .ok (.imul, 1) := by decide +kernel
theorem d_X12_canJoin_47 : decode cX12_canJoin 47 = .ok (.if_icmp .le 5, 3) := by decide +kernel
theorem d_X12_canJoin_50 : decode cX12_canJoin 50 = .ok (.iconst 0, 1) := by decide +kernel
theorem d_X12_canJoin_51 : decode cX12_canJoin 51 = .ok (.ireturn, 1) := by decide +kernel
theorem d_X12_canJoin_52 : decode cX12_canJoin 52 = .ok (.iinc 4 1, 3) := by decide +kernel
theorem d_X12_canJoin_55 : decode cX12_canJoin 55 = .ok (.goto (-52), 3) := by decide +kernel
theorem d_X12_canJoin_58 : decode cX12_canJoin 58 = .ok (.iconst 1, 1) := by decide +kernel
theorem d_X12_canJoin_59 : decode cX12_canJoin 59 = .ok (.ireturn, 1) := by decide +kernel
theorem d_X12_chosen_0 : decode cX12_chosen 0 = .ok (.iconst 0, 1) := by decide +kernel
theorem d_X12_chosen_1 : decode cX12_chosen 1 = .ok (.istore_n 3, 1) := by decide +kernel
theorem d_X12_chosen_2 : decode cX12_chosen 2 = .ok (.iconst 0, 1) := by decide +kernel
theorem d_X12_chosen_3 : decode cX12_chosen 3 = .ok (.istore 4, 2) := by decide +kernel
theorem d_X12_chosen_5 : decode cX12_chosen 5 = .ok (.iload 4, 2) := by decide +kernel
theorem d_X12_chosen_7 : decode cX12_chosen 7 = .ok (.aload_n 0, 1) := by decide +kernel
theorem d_X12_chosen_8 : decode cX12_chosen 8 = .ok (.invokevirtual 194, 3) := by decide +kernel
theorem d_X12_chosen_11 : decode cX12_chosen 11 = .ok (.if_icmp .ge 36, 3) := by decide +kernel
theorem d_X12_chosen_14 : decode cX12_chosen 14 = .ok (.iload_n 1, 1) := by decide +kernel
theorem d_X12_chosen_15 : decode cX12_chosen 15 = .ok (.iload 4, 2) := by decide +kernel
theorem d_X12_chosen_17 : decode cX12_chosen 17 = .ok (.invokestatic 206, 3) := by decide +kernel
theorem d_X12_chosen_20 : decode cX12_chosen 20 = .ok (.ifCond .eq 21, 3) := by decide +kernel
theorem d_X12_chosen_23 : decode cX12_chosen 23 = .ok (.aload_n 0, 1) := by decide +kernel
theorem d_X12_chosen_24 : decode cX12_chosen 24 = .ok (.iload 4, 2) := by decide +kernel
theorem d_X12_chosen_26 : decode cX12_chosen 26 = .ok (.iload_n 3, 1) := by decide +kernel
theorem d_X12_chosen_27 : decode cX12_chosen 27 = .ok (.iload_n 2, 1) := by decide +kernel
theorem d_X12_chosen_28 : decode cX12_chosen 28 = .ok (.invokevirtual 325, 3) := by decide +kernel
theorem d_X12_chosen_31 : decode cX12_chosen 31 = .ok (.ifCond .eq 10, 3) := by decide +kernel
theorem d_X12_chosen_34 : decode cX12_chosen 34 = .ok (.iload_n 3, 1) := by decide +kernel
theorem d_X12_chosen_35 : decode cX12_chosen 35 = .ok (.iconst 1, 1) := by decide +kernel
theorem d_X12_chosen_36 : decode cX12_chosen 36 = .ok (.iload 4, 2) := by decide +kernel
theorem d_X12_chosen_38 : decode cX12_chosen 38 = .ok (.ishl, 1) := by decide +kernel
theorem d_X12_chosen_39 : decode cX12_chosen 39 = .ok (.ior, 1) := by decide +kernel
theorem d_X12_chosen_40 : decode cX12_chosen 40 = .ok (.istore_n 3, 1) := by decide +kernel
theorem d_X12_chosen_41 : decode cX12_chosen 41 = .ok (.iinc 4 1, 3) := by decide +kernel
theorem d_X12_chosen_44 : decode cX12_chosen 44 = .ok (.goto (-39), 3) := by decide +kernel
theorem d_X12_chosen_47 : decode cX12_chosen 47 = .ok (.iload_n 3, 1) := by decide +kernel
theorem d_X12_chosen_48 : decode cX12_chosen 48 = .ok (.ireturn, 1) := by decide +kernel
theorem d_X12_most_0 : decode cX12_most 0 = .ok (.aload_n 0, 1) := by decide +kernel
theorem d_X12_most_1 : decode cX12_most 1 = .ok (.iconst 0, 1) := by decide +kernel
theorem d_X12_most_2 : decode cX12_most 2 = .ok (.putfield 1, 3) := by decide +kernel
theorem d_X12_most_5 : decode cX12_most 5 = .ok (.iload_n 1, 1) := by decide +kernel
theorem d_X12_most_6 : decode cX12_most 6 = .ok (.invokestatic 328, 3) := by decide +kernel
theorem d_X12_most_9 : decode cX12_most 9 = .ok (.ifCond .eq 18, 3) := by decide +kernel
theorem d_X12_most_12 : decode cX12_most 12 = .ok (.aload_n 0, 1) := by decide +kernel
theorem d_X12_most_13 : decode cX12_most 13 = .ok (.aload_n 0, 1) := by decide +kernel
theorem d_X12_most_14 : decode cX12_most 14 = .ok (.invokevirtual 233, 3) := by decide +kernel
theorem d_X12_most_17 : decode cX12_most 17 = .ok (.iload_n 1, 1) := by decide +kernel
theorem d_X12_most_18 : decode cX12_most 18 = .ok (.invokevirtual 331, 3) := by decide +kernel
theorem d_X12_most_21 : decode cX12_most 21 = .ok (.invokestatic 236, 3) := by decide +kernel
theorem d_X12_most_24 : decode cX12_most 24 = .ok (.goto 4, 3) := by decide +kernel
theorem d_X12_most_27 : decode cX12_most 27 = .ok (.iconst (-1), 1) := by decide +kernel
theorem d_X12_most_28 : decode cX12_most 28 = .ok (.ireturn, 1) := by decide +kernel
theorem d_X12_canLie_0 : decode cX12_canLie 0 = .ok (.iconst 1, 1) := by decide +kernel
theorem d_X12_canLie_1 : decode cX12_canLie 1 = .ok (.istore_n 3, 1) := by decide +kernel
theorem d_X12_canLie_2 : decode cX12_canLie 2 = .ok (.iload_n 3, 1) := by decide +kernel
theorem d_X12_canLie_3 : decode cX12_canLie 3 = .ok (.iconst 1, 1) := by decide +kernel
theorem d_X12_canLie_4 : decode cX12_canLie 4 = .ok (.aload_n 0, 1) := by decide +kernel
theorem d_X12_canLie_5 : decode cX12_canLie 5 = .ok (.invokevirtual 191, 3) := by decide +kernel
theorem d_X12_canLie_8 : decode cX12_canLie 8 = .ok (.ishl, 1) := by decide +kernel
theorem d_X12_canLie_9 : decode cX12_canLie 9 = .ok (.if_icmp .ge 28, 3) := by decide +kernel
theorem d_X12_canLie_12 : decode cX12_canLie 12 = .ok (.aload_n 0, 1) := by decide +kernel
theorem d_X12_canLie_13 : decode cX12_canLie 13 = .ok (.iload_n 3, 1) := by decide +kernel
theorem d_X12_canLie_14 : decode cX12_canLie 14 = .ok (.iload_n 1, 1) := by decide +kernel
theorem d_X12_canLie_15 : decode cX12_canLie 15 = .ok (.invokevirtual 322, 3) := by decide +kernel
theorem d_X12_canLie_18 : decode cX12_canLie 18 = .ok (.iload_n 2, 1) := by decide +kernel
theorem d_X12_canLie_19 : decode cX12_canLie 19 = .ok (.iload_n 3, 1) := by decide +kernel
theorem d_X12_canLie_20 : decode cX12_canLie 20 = .ok (.invokestatic 236, 3) := by decide +kernel
theorem d_X12_canLie_23 : decode cX12_canLie 23 = .ok (.iconst 1, 1) := by decide +kernel
theorem d_X12_canLie_24 : decode cX12_canLie 24 = .ok (.isub, 1) := by decide +kernel
theorem d_X12_canLie_25 : decode cX12_canLie 25 = .ok (.imul, 1) := by decide +kernel
theorem d_X12_canLie_26 : decode cX12_canLie 26 = .ok (.if_icmp .le 5, 3) := by decide +kernel
theorem d_X12_canLie_29 : decode cX12_canLie 29 = .ok (.iconst 0, 1) := by decide +kernel
theorem d_X12_canLie_30 : decode cX12_canLie 30 = .ok (.ireturn, 1) := by decide +kernel
theorem d_X12_canLie_31 : decode cX12_canLie 31 = .ok (.iinc 3 1, 3) := by decide +kernel
theorem d_X12_canLie_34 : decode cX12_canLie 34 = .ok (.goto (-32), 3) := by decide +kernel
theorem d_X12_canLie_37 : decode cX12_canLie 37 = .ok (.iconst 1, 1) := by decide +kernel
theorem d_X12_canLie_38 : decode cX12_canLie 38 = .ok (.ireturn, 1) := by decide +kernel
theorem d_X12_fewest_0 : decode cX12_fewest 0 = .ok (.aload_n 0, 1) := by decide +kernel
theorem d_X12_fewest_1 : decode cX12_fewest 1 = .ok (.iconst 0, 1) := by decide +kernel
theorem d_X12_fewest_2 : decode cX12_fewest 2 = .ok (.putfield 1, 3) := by decide +kernel
theorem d_X12_fewest_5 : decode cX12_fewest 5 = .ok (.iconst 0, 1) := by decide +kernel
theorem d_X12_fewest_6 : decode cX12_fewest 6 = .ok (.istore_n 1, 1) := by decide +kernel
theorem d_X12_fewest_7 : decode cX12_fewest 7 = .ok (.aload_n 0, 1) := by decide +kernel
theorem d_X12_fewest_8 : decode cX12_fewest 8 = .ok (.aload_n 0, 1) := by decide +kernel
theorem d_X12_fewest_9 : decode cX12_fewest 9 = .ok (.invokevirtual 233, 3) := by decide +kernel
theorem d_X12_fewest_12 : decode cX12_fewest 12 = .ok (.iload_n 1, 1) := by decide +kernel
theorem d_X12_fewest_13 : decode cX12_fewest 13 = .ok (.invokevirtual 334, 3) := by decide +kernel
theorem d_X12_fewest_16 : decode cX12_fewest 16 = .ok (.ifCond .ne 9, 3) := by decide +kernel
theorem d_X12_fewest_19 : decode cX12_fewest 19 = .ok (.iinc 1 1, 3) := by decide +kernel
theorem d_X12_fewest_22 : decode cX12_fewest 22 = .ok (.goto (-15), 3) := by decide +kernel
theorem d_X12_fewest_25 : decode cX12_fewest 25 = .ok (.iload_n 1, 1) := by decide +kernel
theorem d_X12_fewest_26 : decode cX12_fewest 26 = .ok (.ireturn, 1) := by decide +kernel
theorem d_X12_trees_0 : decode cX12_trees 0 = .ok (.aload_n 0, 1) := by decide +kernel
theorem d_X12_trees_1 : decode cX12_trees 1 = .ok (.iconst 0, 1) := by decide +kernel
theorem d_X12_trees_2 : decode cX12_trees 2 = .ok (.putfield 1, 3) := by decide +kernel
theorem d_X12_trees_5 : decode cX12_trees 5 = .ok (.aload_n 0, 1) := by decide +kernel
theorem d_X12_trees_6 : decode cX12_trees 6 = .ok (.invokevirtual 191, 3) := by decide +kernel
theorem d_X12_trees_9 : decode cX12_trees 9 = .ok (.iconst 2, 1) := by decide +kernel
theorem d_X12_trees_10 : decode cX12_trees 10 = .ok (.if_icmp .ge 5, 3) := by decide +kernel
theorem d_X12_trees_13 : decode cX12_trees 13 = .ok (.iconst (-1), 1) := by decide +kernel
theorem d_X12_trees_14 : decode cX12_trees 14 = .ok (.ireturn, 1) := by decide +kernel
theorem d_X12_trees_15 : decode cX12_trees 15 = .ok (.iconst 0, 1) := by decide +kernel
theorem d_X12_trees_16 : decode cX12_trees 16 = .ok (.istore_n 1, 1) := by decide +kernel
theorem d_X12_trees_17 : decode cX12_trees 17 = .ok (.aload_n 0, 1) := by decide +kernel
theorem d_X12_trees_18 : decode cX12_trees 18 = .ok (.aload_n 0, 1) := by decide +kernel
theorem d_X12_trees_19 : decode cX12_trees 19 = .ok (.invokevirtual 233, 3) := by decide +kernel
theorem d_X12_trees_22 : decode cX12_trees 22 = .ok (.iload_n 1, 1) := by decide +kernel
theorem d_X12_trees_23 : decode cX12_trees 23 = .ok (.iconst 1, 1) := by decide +kernel
theorem d_X12_trees_24 : decode cX12_trees 24 = .ok (.iadd, 1) := by decide +kernel
theorem d_X12_trees_25 : decode cX12_trees 25 = .ok (.invokevirtual 331, 3) := by decide +kernel
theorem d_X12_trees_28 : decode cX12_trees 28 = .ok (.invokestatic 236, 3) := by decide +kernel
theorem d_X12_trees_31 : decode cX12_trees 31 = .ok (.iload_n 1, 1) := by decide +kernel
theorem d_X12_trees_32 : decode cX12_trees 32 = .ok (.iconst 1, 1) := by decide +kernel
theorem d_X12_trees_33 : decode cX12_trees 33 = .ok (.iadd, 1) := by decide +kernel
theorem d_X12_trees_34 : decode cX12_trees 34 = .ok (.aload_n 0, 1) := by decide +kernel
theorem d_X12_trees_35 : decode cX12_trees 35 = .ok (.invokevirtual 191, 3) := by decide +kernel
theorem d_X12_trees_38 : decode cX12_trees 38 = .ok (.iconst 1, 1) := by decide +kernel
theorem d_X12_trees_39 : decode cX12_trees 39 = .ok (.isub, 1) := by decide +kernel
theorem d_X12_trees_40 : decode cX12_trees 40 = .ok (.imul, 1) := by decide +kernel
theorem d_X12_trees_41 : decode cX12_trees 41 = .ok (.if_icmp .ne 9, 3) := by decide +kernel
theorem d_X12_trees_44 : decode cX12_trees 44 = .ok (.iinc 1 1, 3) := by decide +kernel
theorem d_X12_trees_47 : decode cX12_trees 47 = .ok (.goto (-30), 3) := by decide +kernel
theorem d_X12_trees_50 : decode cX12_trees 50 = .ok (.iload_n 1, 1) := by decide +kernel
theorem d_X12_trees_51 : decode cX12_trees 51 = .ok (.ireturn, 1) := by decide +kernel
theorem d_X12_standAlone_0 : decode cX12_standAlone 0 = .ok (.iconst 0, 1) := by decide +kernel
theorem d_X12_standAlone_1 : decode cX12_standAlone 1 = .ok (.istore_n 1, 1) := by decide +kernel
theorem d_X12_standAlone_2 : decode cX12_standAlone 2 = .ok (.iload_n 1, 1) := by decide +kernel
theorem d_X12_standAlone_3 : decode cX12_standAlone 3 = .ok (.bipush 10, 2) := by decide +kernel
theorem d_X12_standAlone_5 : decode cX12_standAlone 5 = .ok (.if_icmp .ge 16, 3) := by decide +kernel
theorem d_X12_standAlone_8 : decode cX12_standAlone 8 = .ok (.aload_n 0, 1) := by decide +kernel
theorem d_X12_standAlone_9 : decode cX12_standAlone 9 = .ok (.getfield 152, 3) := by decide +kernel
theorem d_X12_standAlone_12 : decode cX12_standAlone 12 = .ok (.iload_n 1, 1) := by decide +kernel
theorem d_X12_standAlone_13 : decode cX12_standAlone 13 = .ok (.iload_n 1, 1) := by decide +kernel
theorem d_X12_standAlone_14 : decode cX12_standAlone 14 = .ok (.iastore, 1) := by decide +kernel
theorem d_X12_standAlone_15 : decode cX12_standAlone 15 = .ok (.iinc 1 1, 3) := by decide +kernel
theorem d_X12_standAlone_18 : decode cX12_standAlone 18 = .ok (.goto (-16), 3) := by decide +kernel
theorem d_X12_standAlone_21 : decode cX12_standAlone 21 = .ok (.return_, 1) := by decide +kernel
theorem d_X12_laysThick_0 : decode cX12_laysThick 0 = .ok (.aload_n 0, 1) := by decide +kernel
theorem d_X12_laysThick_1 : decode cX12_laysThick 1 = .ok (.getfield 149, 3) := by decide +kernel
theorem d_X12_laysThick_4 : decode cX12_laysThick 4 = .ok (.iconst 0, 1) := by decide +kernel
theorem d_X12_laysThick_5 : decode cX12_laysThick 5 = .ok (.iconst 0, 1) := by decide +kernel
theorem d_X12_laysThick_6 : decode cX12_laysThick 6 = .ok (.iastore, 1) := by decide +kernel
theorem d_X12_laysThick_7 : decode cX12_laysThick 7 = .ok (.aload_n 0, 1) := by decide +kernel
theorem d_X12_laysThick_8 : decode cX12_laysThick 8 = .ok (.getfield 149, 3) := by decide +kernel
theorem d_X12_laysThick_11 : decode cX12_laysThick 11 = .ok (.iconst 1, 1) := by decide +kernel
theorem d_X12_laysThick_12 : decode cX12_laysThick 12 = .ok (.iconst 0, 1) := by decide +kernel
theorem d_X12_laysThick_13 : decode cX12_laysThick 13 = .ok (.iastore, 1) := by decide +kernel
theorem d_X12_laysThick_14 : decode cX12_laysThick 14 = .ok (.aload_n 0, 1) := by decide +kernel
theorem d_X12_laysThick_15 : decode cX12_laysThick 15 = .ok (.getfield 149, 3) := by decide +kernel
theorem d_X12_laysThick_18 : decode cX12_laysThick 18 = .ok (.iconst 2, 1) := by decide +kernel
theorem d_X12_laysThick_19 : decode cX12_laysThick 19 = .ok (.iconst 0, 1) := by decide +kernel
theorem d_X12_laysThick_20 : decode cX12_laysThick 20 = .ok (.iastore, 1) := by decide +kernel
theorem d_X12_laysThick_21 : decode cX12_laysThick 21 = .ok (.iconst 1, 1) := by decide +kernel
theorem d_X12_laysThick_22 : decode cX12_laysThick 22 = .ok (.istore_n 3, 1) := by decide +kernel
theorem d_X12_laysThick_23 : decode cX12_laysThick 23 = .ok (.iload_n 3, 1) := by decide +kernel
theorem d_X12_laysThick_24 : decode cX12_laysThick 24 = .ok (.sipush 1024, 3) := by decide +kernel
theorem d_X12_laysThick_27 : decode cX12_laysThick 27 = .ok (.if_icmp .ge 198, 3) := by decide +kernel
theorem d_X12_laysThick_30 : decode cX12_laysThick 30 = .ok (.iload_n 3, 1) := by decide +kernel
theorem d_X12_laysThick_31 : decode cX12_laysThick 31 = .ok (.iload_n 1, 1) := by decide +kernel
theorem d_X12_laysThick_32 : decode cX12_laysThick 32 = .ok (.iconst (-1), 1) := by decide +kernel
theorem d_X12_laysThick_33 : decode cX12_laysThick 33 = .ok (.ixor, 1) := by decide +kernel
theorem d_X12_laysThick_34 : decode cX12_laysThick 34 = .ok (.iand, 1) := by decide +kernel
theorem d_X12_laysThick_35 : decode cX12_laysThick 35 = .ok (.ifCond .ne 184, 3) := by decide +kernel
theorem d_X12_laysThick_38 : decode cX12_laysThick 38 = .ok (.iload_n 3, 1) := by decide +kernel
theorem d_X12_laysThick_39 : decode cX12_laysThick 39 = .ok (.invokestatic 236, 3) := by decide +kernel
theorem d_X12_laysThick_42 : decode cX12_laysThick 42 = .ok (.iconst 2, 1) := by decide +kernel
theorem d_X12_laysThick_43 : decode cX12_laysThick 43 = .ok (.if_icmp .ge 6, 3) := by decide +kernel
theorem d_X12_laysThick_46 : decode cX12_laysThick 46 = .ok (.goto 173, 3) := by decide +kernel
theorem d_X12_laysThick_49 : decode cX12_laysThick 49 = .ok (.iconst 0, 1) := by decide +kernel
theorem d_X12_laysThick_50 : decode cX12_laysThick 50 = .ok (.istore 4, 2) := by decide +kernel
theorem d_X12_laysThick_52 : decode cX12_laysThick 52 = .ok (.iconst 0, 1) := by decide +kernel
theorem d_X12_laysThick_53 : decode cX12_laysThick 53 = .ok (.istore 5, 2) := by decide +kernel
theorem d_X12_laysThick_55 : decode cX12_laysThick 55 = .ok (.iload 5, 2) := by decide +kernel
theorem d_X12_laysThick_57 : decode cX12_laysThick 57 = .ok (.aload_n 0, 1) := by decide +kernel
theorem d_X12_laysThick_58 : decode cX12_laysThick 58 = .ok (.invokevirtual 194, 3) := by decide +kernel
theorem d_X12_laysThick_61 : decode cX12_laysThick 61 = .ok (.if_icmp .ge 64, 3) := by decide +kernel
theorem d_X12_laysThick_64 : decode cX12_laysThick 64 = .ok (.iload_n 2, 1) := by decide +kernel
theorem d_X12_laysThick_65 : decode cX12_laysThick 65 = .ok (.iload 5, 2) := by decide +kernel
theorem d_X12_laysThick_67 : decode cX12_laysThick 67 = .ok (.invokestatic 206, 3) := by decide +kernel
theorem d_X12_laysThick_70 : decode cX12_laysThick 70 = .ok (.ifCond .eq 49, 3) := by decide +kernel
theorem d_X12_laysThick_73 : decode cX12_laysThick 73 = .ok (.iload_n 3, 1) := by decide +kernel
theorem d_X12_laysThick_74 : decode cX12_laysThick 74 = .ok (.aload_n 0, 1) := by decide +kernel
theorem d_X12_laysThick_75 : decode cX12_laysThick 75 = .ok (.getfield 152, 3) := by decide +kernel
theorem d_X12_laysThick_78 : decode cX12_laysThick 78 = .ok (.aload_n 0, 1) := by decide +kernel
theorem d_X12_laysThick_79 : decode cX12_laysThick 79 = .ok (.getfield 99, 3) := by decide +kernel
theorem d_X12_laysThick_82 : decode cX12_laysThick 82 = .ok (.iconst 3, 1) := by decide +kernel
theorem d_X12_laysThick_83 : decode cX12_laysThick 83 = .ok (.iload 5, 2) := by decide +kernel
theorem d_X12_laysThick_85 : decode cX12_laysThick 85 = .ok (.iadd, 1) := by decide +kernel
theorem d_X12_laysThick_86 : decode cX12_laysThick 86 = .ok (.iaload, 1) := by decide +kernel
theorem d_X12_laysThick_87 : decode cX12_laysThick 87 = .ok (.iaload, 1) := by decide +kernel
theorem d_X12_laysThick_88 : decode cX12_laysThick 88 = .ok (.invokestatic 206, 3) := by decide +kernel
theorem d_X12_laysThick_91 : decode cX12_laysThick 91 = .ok (.ifCond .eq 28, 3) := by decide +kernel
theorem d_X12_laysThick_94 : decode cX12_laysThick 94 = .ok (.iload_n 3, 1) := by decide +kernel
theorem d_X12_laysThick_95 : decode cX12_laysThick 95 = .ok (.aload_n 0, 1) := by decide +kernel
theorem d_X12_laysThick_96 : decode cX12_laysThick 96 = .ok (.getfield 152, 3) := by decide +kernel
theorem d_X12_laysThick_99 : decode cX12_laysThick 99 = .ok (.aload_n 0, 1) := by decide +kernel
theorem d_X12_laysThick_100 : decode cX12_laysThick 100 = .ok (.getfield 99, 3) := by decide +kernel
theorem d_X12_laysThick_103 : decode cX12_laysThick 103 = .ok (.bipush 27, 2) := by decide +kernel
theorem d_X12_laysThick_105 : decode cX12_laysThick 105 = .ok (.iload 5, 2) := by decide +kernel
theorem d_X12_laysThick_107 : decode cX12_laysThick 107 = .ok (.iadd, 1) := by decide +kernel
theorem d_X12_laysThick_108 : decode cX12_laysThick 108 = .ok (.iaload, 1) := by decide +kernel
theorem d_X12_laysThick_109 : decode cX12_laysThick 109 = .ok (.iaload, 1) := by decide +kernel
theorem d_X12_laysThick_110 : decode cX12_laysThick 110 = .ok (.invokestatic 206, 3) := by decide +kernel
theorem d_X12_laysThick_113 : decode cX12_laysThick 113 = .ok (.ifCond .eq 6, 3) := by decide +kernel
theorem d_X12_laysThick_116 : decode cX12_laysThick 116 = .ok (.iinc 4 1, 3) := by decide +kernel
theorem d_X12_laysThick_119 : decode cX12_laysThick 119 = .ok (.iinc 5 1, 3) := by decide +kernel
theorem d_X12_laysThick_122 : decode cX12_laysThick 122 = .ok (.goto (-67), 3) := by decide +kernel
theorem d_X12_laysThick_125 : decode cX12_laysThick 125 = .ok (.iload_n 3, 1) := by decide +kernel
theorem d_X12_laysThick_126 : decode cX12_laysThick 126 = .ok (.invokestatic 236, 3) := by decide +kernel
theorem d_X12_laysThick_129 : decode cX12_laysThick 129 = .ok (.iconst 1, 1) := by decide +kernel
theorem d_X12_laysThick_130 : decode cX12_laysThick 130 = .ok (.isub, 1) := by decide +kernel
theorem d_X12_laysThick_131 : decode cX12_laysThick 131 = .ok (.istore 5, 2) := by decide +kernel
theorem d_X12_laysThick_133 : decode cX12_laysThick 133 = .ok (.aload_n 0, 1) := by decide +kernel
theorem d_X12_laysThick_134 : decode cX12_laysThick 134 = .ok (.getfield 149, 3) := by decide +kernel
theorem d_X12_laysThick_137 : decode cX12_laysThick 137 = .ok (.iconst 1, 1) := by decide +kernel
theorem d_X12_laysThick_138 : decode cX12_laysThick 138 = .ok (.iaload, 1) := by decide +kernel
theorem d_X12_laysThick_139 : decode cX12_laysThick 139 = .ok (.ifCond .ne 7, 3) := by decide +kernel
theorem d_X12_laysThick_142 : decode cX12_laysThick 142 = .ok (.iconst 1, 1) := by decide +kernel
theorem d_X12_laysThick_143 : decode cX12_laysThick 143 = .ok (.goto 22, 3) := by decide +kernel
theorem d_X12_laysThick_146 : decode cX12_laysThick 146 = .ok (.iload 4, 2) := by decide +kernel
theorem d_X12_laysThick_148 : decode cX12_laysThick 148 = .ok (.aload_n 0, 1) := by decide +kernel
theorem d_X12_laysThick_149 : decode cX12_laysThick 149 = .ok (.getfield 149, 3) := by decide +kernel
theorem d_X12_laysThick_152 : decode cX12_laysThick 152 = .ok (.iconst 1, 1) := by decide +kernel
theorem d_X12_laysThick_153 : decode cX12_laysThick 153 = .ok (.iaload, 1) := by decide +kernel
theorem d_X12_laysThick_154 : decode cX12_laysThick 154 = .ok (.imul, 1) := by decide +kernel
theorem d_X12_laysThick_155 : decode cX12_laysThick 155 = .ok (.aload_n 0, 1) := by decide +kernel
theorem d_X12_laysThick_156 : decode cX12_laysThick 156 = .ok (.getfield 149, 3) := by decide +kernel
theorem d_X12_laysThick_159 : decode cX12_laysThick 159 = .ok (.iconst 0, 1) := by decide +kernel
theorem d_X12_laysThick_160 : decode cX12_laysThick 160 = .ok (.iaload, 1) := by decide +kernel
theorem d_X12_laysThick_161 : decode cX12_laysThick 161 = .ok (.iload 5, 2) := by decide +kernel
theorem d_X12_laysThick_163 : decode cX12_laysThick 163 = .ok (.imul, 1) := by decide +kernel
theorem d_X12_laysThick_164 : decode cX12_laysThick 164 = .ok (.isub, 1) := by decide +kernel
theorem d_X12_laysThick_165 : decode cX12_laysThick 165 = .ok (.istore 6, 2) := by decide +kernel
theorem d_X12_laysThick_167 : decode cX12_laysThick 167 = .ok (.iload 6, 2) := by decide +kernel
theorem d_X12_laysThick_169 : decode cX12_laysThick 169 = .ok (.ifCond .lt 50, 3) := by decide +kernel
theorem d_X12_laysThick_172 : decode cX12_laysThick 172 = .ok (.iload 6, 2) := by decide +kernel
theorem d_X12_laysThick_174 : decode cX12_laysThick 174 = .ok (.ifCond .ne 22, 3) := by decide +kernel
theorem d_X12_laysThick_177 : decode cX12_laysThick 177 = .ok (.iload_n 3, 1) := by decide +kernel
theorem d_X12_laysThick_178 : decode cX12_laysThick 178 = .ok (.invokestatic 236, 3) := by decide +kernel
theorem d_X12_laysThick_181 : decode cX12_laysThick 181 = .ok (.aload_n 0, 1) := by decide +kernel
theorem d_X12_laysThick_182 : decode cX12_laysThick 182 = .ok (.getfield 149, 3) := by decide +kernel
theorem d_X12_laysThick_185 : decode cX12_laysThick 185 = .ok (.iconst 2, 1) := by decide +kernel
theorem d_X12_laysThick_186 : decode cX12_laysThick 186 = .ok (.iaload, 1) := by decide +kernel
theorem d_X12_laysThick_187 : decode cX12_laysThick 187 = .ok (.invokestatic 236, 3) := by decide +kernel
theorem d_X12_laysThick_190 : decode cX12_laysThick 190 = .ok (.if_icmp .lt 6, 3) := by decide +kernel
theorem d_X12_laysThick_193 : decode cX12_laysThick 193 = .ok (.goto 26, 3) := by decide +kernel
theorem d_X12_laysThick_196 : decode cX12_laysThick 196 = .ok (.aload_n 0, 1) := by decide +kernel
theorem d_X12_laysThick_197 : decode cX12_laysThick 197 = .ok (.getfield 149, 3) := by decide +kernel
theorem d_X12_laysThick_200 : decode cX12_laysThick 200 = .ok (.iconst 0, 1) := by decide +kernel
theorem d_X12_laysThick_201 : decode cX12_laysThick 201 = .ok (.iload 4, 2) := by decide +kernel
theorem d_X12_laysThick_203 : decode cX12_laysThick 203 = .ok (.iastore, 1) := by decide +kernel
theorem d_X12_laysThick_204 : decode cX12_laysThick 204 = .ok (.aload_n 0, 1) := by decide +kernel
theorem d_X12_laysThick_205 : decode cX12_laysThick 205 = .ok (.getfield 149, 3) := by decide +kernel
theorem d_X12_laysThick_208 : decode cX12_laysThick 208 = .ok (.iconst 1, 1) := by decide +kernel
theorem d_X12_laysThick_209 : decode cX12_laysThick 209 = .ok (.iload 5, 2) := by decide +kernel
theorem d_X12_laysThick_211 : decode cX12_laysThick 211 = .ok (.iastore, 1) := by decide +kernel
theorem d_X12_laysThick_212 : decode cX12_laysThick 212 = .ok (.aload_n 0, 1) := by decide +kernel
theorem d_X12_laysThick_213 : decode cX12_laysThick 213 = .ok (.getfield 149, 3) := by decide +kernel
theorem d_X12_laysThick_216 : decode cX12_laysThick 216 = .ok (.iconst 2, 1) := by decide +kernel
theorem d_X12_laysThick_217 : decode cX12_laysThick 217 = .ok (.iload_n 3, 1) := by decide +kernel
theorem d_X12_laysThick_218 : decode cX12_laysThick 218 = .ok (.iastore, 1) := by decide +kernel
theorem d_X12_laysThick_219 : decode cX12_laysThick 219 = .ok (.iinc 3 1, 3) := by decide +kernel
theorem d_X12_laysThick_222 : decode cX12_laysThick 222 = .ok (.goto (-199), 3) := by decide +kernel
theorem d_X12_laysThick_225 : decode cX12_laysThick 225 = .ok (.return_, 1) := by decide +kernel
theorem d_X12_divisor_0 : decode cX12_divisor 0 = .ok (.iload_n 1, 1) := by decide +kernel
theorem d_X12_divisor_1 : decode cX12_divisor 1 = .ok (.ifCond .ne 7, 3) := by decide +kernel
theorem d_X12_divisor_4 : decode cX12_divisor 4 = .ok (.iload_n 0, 1) := by decide +kernel
theorem d_X12_divisor_5 : decode cX12_divisor 5 = .ok (.goto 10, 3) := by decide +kernel
theorem d_X12_divisor_8 : decode cX12_divisor 8 = .ok (.iload_n 1, 1) := by decide +kernel
theorem d_X12_divisor_9 : decode cX12_divisor 9 = .ok (.iload_n 0, 1) := by decide +kernel
theorem d_X12_divisor_10 : decode cX12_divisor 10 = .ok (.iload_n 1, 1) := by decide +kernel
theorem d_X12_divisor_11 : decode cX12_divisor 11 = .ok (.irem, 1) := by decide +kernel
theorem d_X12_divisor_12 : decode cX12_divisor 12 = .ok (.invokestatic 7, 3) := by decide +kernel
theorem d_X12_divisor_15 : decode cX12_divisor 15 = .ok (.ireturn, 1) := by decide +kernel
theorem d_X12_part_0 : decode cX12_part 0 = .ok (.iload_n 0, 1) := by decide +kernel
theorem d_X12_part_1 : decode cX12_part 1 = .ok (.iload_n 1, 1) := by decide +kernel
theorem d_X12_part_2 : decode cX12_part 2 = .ok (.invokestatic 7, 3) := by decide +kernel
theorem d_X12_part_5 : decode cX12_part 5 = .ok (.istore_n 3, 1) := by decide +kernel
theorem d_X12_part_6 : decode cX12_part 6 = .ok (.iload_n 0, 1) := by decide +kernel
theorem d_X12_part_7 : decode cX12_part 7 = .ok (.ifCond .ne 7, 3) := by decide +kernel
theorem d_X12_part_10 : decode cX12_part 10 = .ok (.iload_n 2, 1) := by decide +kernel
theorem d_X12_part_11 : decode cX12_part 11 = .ok (.goto 14, 3) := by decide +kernel
theorem d_X12_part_14 : decode cX12_part 14 = .ok (.iload_n 2, 1) := by decide +kernel
theorem d_X12_part_15 : decode cX12_part 15 = .ok (.ifCond .ne 7, 3) := by decide +kernel
theorem d_X12_part_18 : decode cX12_part 18 = .ok (.iload_n 0, 1) := by decide +kernel
theorem d_X12_part_19 : decode cX12_part 19 = .ok (.goto 4, 3) := by decide +kernel
theorem d_X12_part_22 : decode cX12_part 22 = .ok (.iload_n 1, 1) := by decide +kernel
theorem d_X12_part_23 : decode cX12_part 23 = .ok (.iload_n 3, 1) := by decide +kernel
theorem d_X12_part_24 : decode cX12_part 24 = .ok (.idiv, 1) := by decide +kernel
theorem d_X12_part_25 : decode cX12_part 25 = .ok (.ireturn, 1) := by decide +kernel
theorem d_X12_thick_0 : decode cX12_thick 0 = .ok (.aload_n 0, 1) := by decide +kernel
theorem d_X12_thick_1 : decode cX12_thick 1 = .ok (.iconst 0, 1) := by decide +kernel
theorem d_X12_thick_2 : decode cX12_thick 2 = .ok (.putfield 1, 3) := by decide +kernel
theorem d_X12_thick_5 : decode cX12_thick 5 = .ok (.aload_n 0, 1) := by decide +kernel
theorem d_X12_thick_6 : decode cX12_thick 6 = .ok (.invokevirtual 191, 3) := by decide +kernel
theorem d_X12_thick_9 : decode cX12_thick 9 = .ok (.iconst 2, 1) := by decide +kernel
theorem d_X12_thick_10 : decode cX12_thick 10 = .ok (.if_icmp .lt 12, 3) := by decide +kernel
theorem d_X12_thick_13 : decode cX12_thick 13 = .ok (.iload_n 1, 1) := by decide +kernel
theorem d_X12_thick_14 : decode cX12_thick 14 = .ok (.iconst 0, 1) := by decide +kernel
theorem d_X12_thick_15 : decode cX12_thick 15 = .ok (.iconst 2, 1) := by decide +kernel
theorem d_X12_thick_16 : decode cX12_thick 16 = .ok (.invokestatic 83, 3) := by decide +kernel
theorem d_X12_thick_19 : decode cX12_thick 19 = .ok (.ifCond .ne 5, 3) := by decide +kernel
theorem d_X12_thick_22 : decode cX12_thick 22 = .ok (.iconst (-1), 1) := by decide +kernel
theorem d_X12_thick_23 : decode cX12_thick 23 = .ok (.ireturn, 1) := by decide +kernel
theorem d_X12_thick_24 : decode cX12_thick 24 = .ok (.aload_n 0, 1) := by decide +kernel
theorem d_X12_thick_25 : decode cX12_thick 25 = .ok (.invokevirtual 337, 3) := by decide +kernel
theorem d_X12_thick_28 : decode cX12_thick 28 = .ok (.aload_n 0, 1) := by decide +kernel
theorem d_X12_thick_29 : decode cX12_thick 29 = .ok (.iconst 1, 1) := by decide +kernel
theorem d_X12_thick_30 : decode cX12_thick 30 = .ok (.aload_n 0, 1) := by decide +kernel
theorem d_X12_thick_31 : decode cX12_thick 31 = .ok (.invokevirtual 191, 3) := by decide +kernel
theorem d_X12_thick_34 : decode cX12_thick 34 = .ok (.ishl, 1) := by decide +kernel
theorem d_X12_thick_35 : decode cX12_thick 35 = .ok (.iconst 1, 1) := by decide +kernel
theorem d_X12_thick_36 : decode cX12_thick 36 = .ok (.isub, 1) := by decide +kernel
theorem d_X12_thick_37 : decode cX12_thick 37 = .ok (.aload_n 0, 1) := by decide +kernel
theorem d_X12_thick_38 : decode cX12_thick 38 = .ok (.invokevirtual 233, 3) := by decide +kernel
theorem d_X12_thick_41 : decode cX12_thick 41 = .ok (.invokevirtual 340, 3) := by decide +kernel
theorem d_X12_thick_44 : decode cX12_thick 44 = .ok (.iload_n 1, 1) := by decide +kernel
theorem d_X12_thick_45 : decode cX12_thick 45 = .ok (.iconst 2, 1) := by decide +kernel
theorem d_X12_thick_46 : decode cX12_thick 46 = .ok (.if_icmp .ne 12, 3) := by decide +kernel
theorem d_X12_thick_49 : decode cX12_thick 49 = .ok (.aload_n 0, 1) := by decide +kernel
theorem d_X12_thick_50 : decode cX12_thick 50 = .ok (.getfield 149, 3) := by decide +kernel
theorem d_X12_thick_53 : decode cX12_thick 53 = .ok (.iconst 2, 1) := by decide +kernel
theorem d_X12_thick_54 : decode cX12_thick 54 = .ok (.iaload, 1) := by decide +kernel
theorem d_X12_thick_55 : decode cX12_thick 55 = .ok (.goto 19, 3) := by decide +kernel
theorem d_X12_thick_58 : decode cX12_thick 58 = .ok (.aload_n 0, 1) := by decide +kernel
theorem d_X12_thick_59 : decode cX12_thick 59 = .ok (.getfield 149, 3) := by decide +kernel
theorem d_X12_thick_62 : decode cX12_thick 62 = .ok (.iconst 0, 1) := by decide +kernel
theorem d_X12_thick_63 : decode cX12_thick 63 = .ok (.iaload, 1) := by decide +kernel
theorem d_X12_thick_64 : decode cX12_thick 64 = .ok (.aload_n 0, 1) := by decide +kernel
theorem d_X12_thick_65 : decode cX12_thick 65 = .ok (.getfield 149, 3) := by decide +kernel
theorem d_X12_thick_68 : decode cX12_thick 68 = .ok (.iconst 1, 1) := by decide +kernel
theorem d_X12_thick_69 : decode cX12_thick 69 = .ok (.iaload, 1) := by decide +kernel
theorem d_X12_thick_70 : decode cX12_thick 70 = .ok (.iload_n 1, 1) := by decide +kernel
theorem d_X12_thick_71 : decode cX12_thick 71 = .ok (.invokestatic 343, 3) := by decide +kernel
theorem d_X12_thick_74 : decode cX12_thick 74 = .ok (.ireturn, 1) := by decide +kernel
theorem d_X12_crowded_0 : decode cX12_crowded 0 = .ok (.aload_n 0, 1) := by decide +kernel
theorem d_X12_crowded_1 : decode cX12_crowded 1 = .ok (.iconst 0, 1) := by decide +kernel
theorem d_X12_crowded_2 : decode cX12_crowded 2 = .ok (.putfield 1, 3) := by decide +kernel
theorem d_X12_crowded_5 : decode cX12_crowded 5 = .ok (.iload_n 1, 1) := by decide +kernel
theorem d_X12_crowded_6 : decode cX12_crowded 6 = .ok (.invokestatic 328, 3) := by decide +kernel
theorem d_X12_crowded_9 : decode cX12_crowded 9 = .ok (.ifCond .ne 5, 3) := by decide +kernel
theorem d_X12_crowded_12 : decode cX12_crowded 12 = .ok (.iconst (-1), 1) := by decide +kernel
theorem d_X12_crowded_13 : decode cX12_crowded 13 = .ok (.ireturn, 1) := by decide +kernel
theorem d_X12_crowded_14 : decode cX12_crowded 14 = .ok (.iconst 0, 1) := by decide +kernel
theorem d_X12_crowded_15 : decode cX12_crowded 15 = .ok (.istore_n 2, 1) := by decide +kernel
theorem d_X12_crowded_16 : decode cX12_crowded 16 = .ok (.iconst 0, 1) := by decide +kernel
theorem d_X12_crowded_17 : decode cX12_crowded 17 = .ok (.istore_n 3, 1) := by decide +kernel
theorem d_X12_crowded_18 : decode cX12_crowded 18 = .ok (.iconst 1, 1) := by decide +kernel
theorem d_X12_crowded_19 : decode cX12_crowded 19 = .ok (.istore 4, 2) := by decide +kernel
theorem d_X12_crowded_21 : decode cX12_crowded 21 = .ok (.iload 4, 2) := by decide +kernel
theorem d_X12_crowded_23 : decode cX12_crowded 23 = .ok (.iconst 1, 1) := by decide +kernel
theorem d_X12_crowded_24 : decode cX12_crowded 24 = .ok (.aload_n 0, 1) := by decide +kernel
theorem d_X12_crowded_25 : decode cX12_crowded 25 = .ok (.invokevirtual 191, 3) := by decide +kernel
theorem d_X12_crowded_28 : decode cX12_crowded 28 = .ok (.ishl, 1) := by decide +kernel
theorem d_X12_crowded_29 : decode cX12_crowded 29 = .ok (.if_icmp .ge 80, 3) := by decide +kernel
theorem d_X12_crowded_32 : decode cX12_crowded 32 = .ok (.iload 4, 2) := by decide +kernel
theorem d_X12_crowded_34 : decode cX12_crowded 34 = .ok (.invokestatic 236, 3) := by decide +kernel
theorem d_X12_crowded_37 : decode cX12_crowded 37 = .ok (.iconst 2, 1) := by decide +kernel
theorem d_X12_crowded_38 : decode cX12_crowded 38 = .ok (.if_icmp .ge 6, 3) := by decide +kernel
theorem d_X12_crowded_41 : decode cX12_crowded 41 = .ok (.goto 62, 3) := by decide +kernel
theorem d_X12_crowded_44 : decode cX12_crowded 44 = .ok (.aload_n 0, 1) := by decide +kernel
theorem d_X12_crowded_45 : decode cX12_crowded 45 = .ok (.iload 4, 2) := by decide +kernel
theorem d_X12_crowded_47 : decode cX12_crowded 47 = .ok (.aload_n 0, 1) := by decide +kernel
theorem d_X12_crowded_48 : decode cX12_crowded 48 = .ok (.invokevirtual 233, 3) := by decide +kernel
theorem d_X12_crowded_51 : decode cX12_crowded 51 = .ok (.invokevirtual 322, 3) := by decide +kernel
theorem d_X12_crowded_54 : decode cX12_crowded 54 = .ok (.iload_n 1, 1) := by decide +kernel
theorem d_X12_crowded_55 : decode cX12_crowded 55 = .ok (.iload 4, 2) := by decide +kernel
theorem d_X12_crowded_57 : decode cX12_crowded 57 = .ok (.invokestatic 236, 3) := by decide +kernel
theorem d_X12_crowded_60 : decode cX12_crowded 60 = .ok (.iconst 1, 1) := by decide +kernel
theorem d_X12_crowded_61 : decode cX12_crowded 61 = .ok (.isub, 1) := by decide +kernel
theorem d_X12_crowded_62 : decode cX12_crowded 62 = .ok (.imul, 1) := by decide +kernel
theorem d_X12_crowded_63 : decode cX12_crowded 63 = .ok (.isub, 1) := by decide +kernel
theorem d_X12_crowded_64 : decode cX12_crowded 64 = .ok (.istore 5, 2) := by decide +kernel
theorem d_X12_crowded_66 : decode cX12_crowded 66 = .ok (.iload 5, 2) := by decide +kernel
theorem d_X12_crowded_68 : decode cX12_crowded 68 = .ok (.iload_n 3, 1) := by decide +kernel
theorem d_X12_crowded_69 : decode cX12_crowded 69 = .ok (.if_icmp .lt 34, 3) := by decide +kernel
theorem d_X12_crowded_72 : decode cX12_crowded 72 = .ok (.iload 5, 2) := by decide +kernel
theorem d_X12_crowded_74 : decode cX12_crowded 74 = .ok (.iload_n 3, 1) := by decide +kernel
theorem d_X12_crowded_75 : decode cX12_crowded 75 = .ok (.if_icmp .ne 22, 3) := by decide +kernel
theorem d_X12_crowded_78 : decode cX12_crowded 78 = .ok (.iload_n 2, 1) := by decide +kernel
theorem d_X12_crowded_79 : decode cX12_crowded 79 = .ok (.ifCond .eq 24, 3) := by decide +kernel
theorem d_X12_crowded_82 : decode cX12_crowded 82 = .ok (.iload 4, 2) := by decide +kernel
theorem d_X12_crowded_84 : decode cX12_crowded 84 = .ok (.invokestatic 236, 3) := by decide +kernel
theorem d_X12_crowded_87 : decode cX12_crowded 87 = .ok (.iload_n 2, 1) := by decide +kernel
theorem d_X12_crowded_88 : decode cX12_crowded 88 = .ok (.invokestatic 236, 3) := by decide +kernel
theorem d_X12_crowded_91 : decode cX12_crowded 91 = .ok (.if_icmp .lt 6, 3) := by decide +kernel
theorem d_X12_crowded_94 : decode cX12_crowded 94 = .ok (.goto 9, 3) := by decide +kernel
theorem d_X12_crowded_97 : decode cX12_crowded 97 = .ok (.iload 5, 2) := by decide +kernel
theorem d_X12_crowded_99 : decode cX12_crowded 99 = .ok (.istore_n 3, 1) := by decide +kernel
theorem d_X12_crowded_100 : decode cX12_crowded 100 = .ok (.iload 4, 2) := by decide +kernel
theorem d_X12_crowded_102 : decode cX12_crowded 102 = .ok (.istore_n 2, 1) := by decide +kernel
theorem d_X12_crowded_103 : decode cX12_crowded 103 = .ok (.iinc 4 1, 3) := by decide +kernel
theorem d_X12_crowded_106 : decode cX12_crowded 106 = .ok (.goto (-85), 3) := by decide +kernel
theorem d_X12_crowded_109 : decode cX12_crowded 109 = .ok (.iload_n 2, 1) := by decide +kernel
theorem d_X12_crowded_110 : decode cX12_crowded 110 = .ok (.ireturn, 1) := by decide +kernel
theorem d_X12_even_0 : decode cX12_even 0 = .ok (.aload_n 0, 1) := by decide +kernel
theorem d_X12_even_1 : decode cX12_even 1 = .ok (.iconst 0, 1) := by decide +kernel
theorem d_X12_even_2 : decode cX12_even 2 = .ok (.putfield 1, 3) := by decide +kernel
theorem d_X12_even_5 : decode cX12_even 5 = .ok (.iconst 0, 1) := by decide +kernel
theorem d_X12_even_6 : decode cX12_even 6 = .ok (.istore_n 1, 1) := by decide +kernel
theorem d_X12_even_7 : decode cX12_even 7 = .ok (.iconst 1, 1) := by decide +kernel
theorem d_X12_even_8 : decode cX12_even 8 = .ok (.istore_n 2, 1) := by decide +kernel
theorem d_X12_even_9 : decode cX12_even 9 = .ok (.iload_n 2, 1) := by decide +kernel
theorem d_X12_even_10 : decode cX12_even 10 = .ok (.iconst 1, 1) := by decide +kernel
theorem d_X12_even_11 : decode cX12_even 11 = .ok (.aload_n 0, 1) := by decide +kernel
theorem d_X12_even_12 : decode cX12_even 12 = .ok (.invokevirtual 191, 3) := by decide +kernel
theorem d_X12_even_15 : decode cX12_even 15 = .ok (.ishl, 1) := by decide +kernel
theorem d_X12_even_16 : decode cX12_even 16 = .ok (.if_icmp .ge 38, 3) := by decide +kernel
theorem d_X12_even_19 : decode cX12_even 19 = .ok (.aload_n 0, 1) := by decide +kernel
theorem d_X12_even_20 : decode cX12_even 20 = .ok (.iload_n 2, 1) := by decide +kernel
theorem d_X12_even_21 : decode cX12_even 21 = .ok (.aload_n 0, 1) := by decide +kernel
theorem d_X12_even_22 : decode cX12_even 22 = .ok (.invokevirtual 233, 3) := by decide +kernel
theorem d_X12_even_25 : decode cX12_even 25 = .ok (.invokevirtual 322, 3) := by decide +kernel
theorem d_X12_even_28 : decode cX12_even 28 = .ok (.iload_n 2, 1) := by decide +kernel
theorem d_X12_even_29 : decode cX12_even 29 = .ok (.invokestatic 236, 3) := by decide +kernel
theorem d_X12_even_32 : decode cX12_even 32 = .ok (.iadd, 1) := by decide +kernel
theorem d_X12_even_33 : decode cX12_even 33 = .ok (.iconst 1, 1) := by decide +kernel
theorem d_X12_even_34 : decode cX12_even 34 = .ok (.isub, 1) := by decide +kernel
theorem d_X12_even_35 : decode cX12_even 35 = .ok (.iload_n 2, 1) := by decide +kernel
theorem d_X12_even_36 : decode cX12_even 36 = .ok (.invokestatic 236, 3) := by decide +kernel
theorem d_X12_even_39 : decode cX12_even 39 = .ok (.idiv, 1) := by decide +kernel
theorem d_X12_even_40 : decode cX12_even 40 = .ok (.istore_n 3, 1) := by decide +kernel
theorem d_X12_even_41 : decode cX12_even 41 = .ok (.iload_n 3, 1) := by decide +kernel
theorem d_X12_even_42 : decode cX12_even 42 = .ok (.iload_n 1, 1) := by decide +kernel
theorem d_X12_even_43 : decode cX12_even 43 = .ok (.if_icmp .le 5, 3) := by decide +kernel
theorem d_X12_even_46 : decode cX12_even 46 = .ok (.iload_n 3, 1) := by decide +kernel
theorem d_X12_even_47 : decode cX12_even 47 = .ok (.istore_n 1, 1) := by decide +kernel
theorem d_X12_even_48 : decode cX12_even 48 = .ok (.iinc 2 1, 3) := by decide +kernel
theorem d_X12_even_51 : decode cX12_even 51 = .ok (.goto (-42), 3) := by decide +kernel
theorem d_X12_even_54 : decode cX12_even 54 = .ok (.iload_n 1, 1) := by decide +kernel
theorem d_X12_even_55 : decode cX12_even 55 = .ok (.ireturn, 1) := by decide +kernel
theorem d_X12_vital_0 : decode cX12_vital 0 = .ok (.aload_n 0, 1) := by decide +kernel
theorem d_X12_vital_1 : decode cX12_vital 1 = .ok (.iconst 0, 1) := by decide +kernel
theorem d_X12_vital_2 : decode cX12_vital 2 = .ok (.putfield 1, 3) := by decide +kernel
theorem d_X12_vital_5 : decode cX12_vital 5 = .ok (.aload_n 0, 1) := by decide +kernel
theorem d_X12_vital_6 : decode cX12_vital 6 = .ok (.invokevirtual 233, 3) := by decide +kernel
theorem d_X12_vital_9 : decode cX12_vital 9 = .ok (.istore_n 1, 1) := by decide +kernel
theorem d_X12_vital_10 : decode cX12_vital 10 = .ok (.aload_n 0, 1) := by decide +kernel
theorem d_X12_vital_11 : decode cX12_vital 11 = .ok (.iload_n 1, 1) := by decide +kernel
theorem d_X12_vital_12 : decode cX12_vital 12 = .ok (.aload_n 0, 1) := by decide +kernel
theorem d_X12_vital_13 : decode cX12_vital 13 = .ok (.invokevirtual 197, 3) := by decide +kernel
theorem d_X12_vital_16 : decode cX12_vital 16 = .ok (.invokevirtual 331, 3) := by decide +kernel
theorem d_X12_vital_19 : decode cX12_vital 19 = .ok (.invokestatic 236, 3) := by decide +kernel
theorem d_X12_vital_22 : decode cX12_vital 22 = .ok (.istore_n 2, 1) := by decide +kernel
theorem d_X12_vital_23 : decode cX12_vital 23 = .ok (.iconst 0, 1) := by decide +kernel
theorem d_X12_vital_24 : decode cX12_vital 24 = .ok (.istore_n 3, 1) := by decide +kernel
theorem d_X12_vital_25 : decode cX12_vital 25 = .ok (.iconst 0, 1) := by decide +kernel
theorem d_X12_vital_26 : decode cX12_vital 26 = .ok (.istore 4, 2) := by decide +kernel
theorem d_X12_vital_28 : decode cX12_vital 28 = .ok (.iload 4, 2) := by decide +kernel
theorem d_X12_vital_30 : decode cX12_vital 30 = .ok (.aload_n 0, 1) := by decide +kernel
theorem d_X12_vital_31 : decode cX12_vital 31 = .ok (.invokevirtual 194, 3) := by decide +kernel
theorem d_X12_vital_34 : decode cX12_vital 34 = .ok (.if_icmp .ge 48, 3) := by decide +kernel
theorem d_X12_vital_37 : decode cX12_vital 37 = .ok (.iload_n 1, 1) := by decide +kernel
theorem d_X12_vital_38 : decode cX12_vital 38 = .ok (.iload 4, 2) := by decide +kernel
theorem d_X12_vital_40 : decode cX12_vital 40 = .ok (.invokestatic 206, 3) := by decide +kernel
theorem d_X12_vital_43 : decode cX12_vital 43 = .ok (.ifCond .eq 33, 3) := by decide +kernel
theorem d_X12_vital_46 : decode cX12_vital 46 = .ok (.aload_n 0, 1) := by decide +kernel
theorem d_X12_vital_47 : decode cX12_vital 47 = .ok (.iload_n 1, 1) := by decide +kernel
theorem d_X12_vital_48 : decode cX12_vital 48 = .ok (.iconst 1, 1) := by decide +kernel
theorem d_X12_vital_49 : decode cX12_vital 49 = .ok (.iload 4, 2) := by decide +kernel
theorem d_X12_vital_51 : decode cX12_vital 51 = .ok (.ishl, 1) := by decide +kernel
theorem d_X12_vital_52 : decode cX12_vital 52 = .ok (.iconst (-1), 1) := by decide +kernel
theorem d_X12_vital_53 : decode cX12_vital 53 = .ok (.ixor, 1) := by decide +kernel
theorem d_X12_vital_54 : decode cX12_vital 54 = .ok (.iand, 1) := by decide +kernel
theorem d_X12_vital_55 : decode cX12_vital 55 = .ok (.aload_n 0, 1) := by decide +kernel
theorem d_X12_vital_56 : decode cX12_vital 56 = .ok (.invokevirtual 197, 3) := by decide +kernel
theorem d_X12_vital_59 : decode cX12_vital 59 = .ok (.invokevirtual 331, 3) := by decide +kernel
theorem d_X12_vital_62 : decode cX12_vital 62 = .ok (.invokestatic 236, 3) := by decide +kernel
theorem d_X12_vital_65 : decode cX12_vital 65 = .ok (.iload_n 2, 1) := by decide +kernel
theorem d_X12_vital_66 : decode cX12_vital 66 = .ok (.if_icmp .ge 10, 3) := by decide +kernel
theorem d_X12_vital_69 : decode cX12_vital 69 = .ok (.iload_n 3, 1) := by decide +kernel
theorem d_X12_vital_70 : decode cX12_vital 70 = .ok (.iconst 1, 1) := by decide +kernel
theorem d_X12_vital_71 : decode cX12_vital 71 = .ok (.iload 4, 2) := by decide +kernel
theorem d_X12_vital_73 : decode cX12_vital 73 = .ok (.ishl, 1) := by decide +kernel
theorem d_X12_vital_74 : decode cX12_vital 74 = .ok (.ior, 1) := by decide +kernel
theorem d_X12_vital_75 : decode cX12_vital 75 = .ok (.istore_n 3, 1) := by decide +kernel
theorem d_X12_vital_76 : decode cX12_vital 76 = .ok (.iinc 4 1, 3) := by decide +kernel
theorem d_X12_vital_79 : decode cX12_vital 79 = .ok (.goto (-51), 3) := by decide +kernel
theorem d_X12_vital_82 : decode cX12_vital 82 = .ok (.iload_n 3, 1) := by decide +kernel
theorem d_X12_vital_83 : decode cX12_vital 83 = .ok (.ireturn, 1) := by decide +kernel
theorem d_X12_isLatest_0 : decode cX12_isLatest 0 = .ok (.aload_n 0, 1) := by decide +kernel
theorem d_X12_isLatest_1 : decode cX12_isLatest 1 = .ok (.iload_n 1, 1) := by decide +kernel
theorem d_X12_isLatest_2 : decode cX12_isLatest 2 = .ok (.invokevirtual 209, 3) := by decide +kernel
theorem d_X12_isLatest_5 : decode cX12_isLatest 5 = .ok (.iload_n 2, 1) := by decide +kernel
theorem d_X12_isLatest_6 : decode cX12_isLatest 6 = .ok (.invokestatic 206, 3) := by decide +kernel
theorem d_X12_isLatest_9 : decode cX12_isLatest 9 = .ok (.ifCond .eq 18, 3) := by decide +kernel
theorem d_X12_isLatest_12 : decode cX12_isLatest 12 = .ok (.aload_n 0, 1) := by decide +kernel
theorem d_X12_isLatest_13 : decode cX12_isLatest 13 = .ok (.iload_n 1, 1) := by decide +kernel
theorem d_X12_isLatest_14 : decode cX12_isLatest 14 = .ok (.invokevirtual 209, 3) := by decide +kernel
theorem d_X12_isLatest_17 : decode cX12_isLatest 17 = .ok (.iconst 2, 1) := by decide +kernel
theorem d_X12_isLatest_18 : decode cX12_isLatest 18 = .ok (.iload_n 2, 1) := by decide +kernel
theorem d_X12_isLatest_19 : decode cX12_isLatest 19 = .ok (.ishl, 1) := by decide +kernel
theorem d_X12_isLatest_20 : decode cX12_isLatest 20 = .ok (.if_icmp .ge 7, 3) := by decide +kernel
theorem d_X12_isLatest_23 : decode cX12_isLatest 23 = .ok (.iconst 1, 1) := by decide +kernel
theorem d_X12_isLatest_24 : decode cX12_isLatest 24 = .ok (.goto 4, 3) := by decide +kernel
theorem d_X12_isLatest_27 : decode cX12_isLatest 27 = .ok (.iconst 0, 1) := by decide +kernel
theorem d_X12_isLatest_28 : decode cX12_isLatest 28 = .ok (.ireturn, 1) := by decide +kernel
theorem d_X12_parts_0 : decode cX12_parts 0 = .ok (.iload_n 1, 1) := by decide +kernel
theorem d_X12_parts_1 : decode cX12_parts 1 = .ok (.aload_n 0, 1) := by decide +kernel
theorem d_X12_parts_2 : decode cX12_parts 2 = .ok (.invokevirtual 191, 3) := by decide +kernel
theorem d_X12_parts_5 : decode cX12_parts 5 = .ok (.if_icmp .ne 69, 3) := by decide +kernel
theorem d_X12_parts_8 : decode cX12_parts 8 = .ok (.iload_n 2, 1) := by decide +kernel
theorem d_X12_parts_9 : decode cX12_parts 9 = .ok (.iconst 2, 1) := by decide +kernel
theorem d_X12_parts_10 : decode cX12_parts 10 = .ok (.if_icmp .ge 4, 3) := by decide +kernel
theorem d_X12_parts_13 : decode cX12_parts 13 = .ok (.return_, 1) := by decide +kernel
theorem d_X12_parts_14 : decode cX12_parts 14 = .ok (.aload_n 0, 1) := by decide +kernel
theorem d_X12_parts_15 : decode cX12_parts 15 = .ok (.getfield 347, 3) := by decide +kernel
theorem d_X12_parts_18 : decode cX12_parts 18 = .ok (.ifCond .ne 7, 3) := by decide +kernel
theorem d_X12_parts_21 : decode cX12_parts 21 = .ok (.iconst (-1), 1) := by decide +kernel
theorem d_X12_parts_22 : decode cX12_parts 22 = .ok (.goto 20, 3) := by decide +kernel
theorem d_X12_parts_25 : decode cX12_parts 25 = .ok (.iload_n 3, 1) := by decide +kernel
theorem d_X12_parts_26 : decode cX12_parts 26 = .ok (.aload_n 0, 1) := by decide +kernel
theorem d_X12_parts_27 : decode cX12_parts 27 = .ok (.getfield 347, 3) := by decide +kernel
theorem d_X12_parts_30 : decode cX12_parts 30 = .ok (.iconst 1, 1) := by decide +kernel
theorem d_X12_parts_31 : decode cX12_parts 31 = .ok (.isub, 1) := by decide +kernel
theorem d_X12_parts_32 : decode cX12_parts 32 = .ok (.imul, 1) := by decide +kernel
theorem d_X12_parts_33 : decode cX12_parts 33 = .ok (.aload_n 0, 1) := by decide +kernel
theorem d_X12_parts_34 : decode cX12_parts 34 = .ok (.getfield 350, 3) := by decide +kernel
theorem d_X12_parts_37 : decode cX12_parts 37 = .ok (.iload_n 2, 1) := by decide +kernel
theorem d_X12_parts_38 : decode cX12_parts 38 = .ok (.iconst 1, 1) := by decide +kernel
theorem d_X12_parts_39 : decode cX12_parts 39 = .ok (.isub, 1) := by decide +kernel
theorem d_X12_parts_40 : decode cX12_parts 40 = .ok (.imul, 1) := by decide +kernel
theorem d_X12_parts_41 : decode cX12_parts 41 = .ok (.isub, 1) := by decide +kernel
theorem d_X12_parts_42 : decode cX12_parts 42 = .ok (.istore 4, 2) := by decide +kernel
theorem d_X12_parts_44 : decode cX12_parts 44 = .ok (.iload 4, 2) := by decide +kernel
theorem d_X12_parts_46 : decode cX12_parts 46 = .ok (.ifCond .gt 16, 3) := by decide +kernel
theorem d_X12_parts_49 : decode cX12_parts 49 = .ok (.iload 4, 2) := by decide +kernel
theorem d_X12_parts_51 : decode cX12_parts 51 = .ok (.ifCond .ne 12, 3) := by decide +kernel
theorem d_X12_parts_54 : decode cX12_parts 54 = .ok (.iload_n 2, 1) := by decide +kernel
theorem d_X12_parts_55 : decode cX12_parts 55 = .ok (.aload_n 0, 1) := by decide +kernel
theorem d_X12_parts_56 : decode cX12_parts 56 = .ok (.getfield 347, 3) := by decide +kernel
theorem d_X12_parts_59 : decode cX12_parts 59 = .ok (.if_icmp .lt 4, 3) := by decide +kernel
theorem d_X12_parts_62 : decode cX12_parts 62 = .ok (.return_, 1) := by decide +kernel
theorem d_X12_parts_63 : decode cX12_parts 63 = .ok (.aload_n 0, 1) := by decide +kernel
theorem d_X12_parts_64 : decode cX12_parts 64 = .ok (.iload_n 3, 1) := by decide +kernel
theorem d_X12_parts_65 : decode cX12_parts 65 = .ok (.putfield 350, 3) := by decide +kernel
theorem d_X12_parts_68 : decode cX12_parts 68 = .ok (.aload_n 0, 1) := by decide +kernel
theorem d_X12_parts_69 : decode cX12_parts 69 = .ok (.iload_n 2, 1) := by decide +kernel
theorem d_X12_parts_70 : decode cX12_parts 70 = .ok (.putfield 347, 3) := by decide +kernel
theorem d_X12_parts_73 : decode cX12_parts 73 = .ok (.return_, 1) := by decide +kernel
theorem d_X12_parts_74 : decode cX12_parts 74 = .ok (.iconst 0, 1) := by decide +kernel
theorem d_X12_parts_75 : decode cX12_parts 75 = .ok (.istore 4, 2) := by decide +kernel
theorem d_X12_parts_77 : decode cX12_parts 77 = .ok (.iload 4, 2) := by decide +kernel
theorem d_X12_parts_79 : decode cX12_parts 79 = .ok (.iload_n 2, 1) := by decide +kernel
theorem d_X12_parts_80 : decode cX12_parts 80 = .ok (.if_icmp .gt 116, 3) := by decide +kernel
theorem d_X12_parts_83 : decode cX12_parts 83 = .ok (.aload_n 0, 1) := by decide +kernel
theorem d_X12_parts_84 : decode cX12_parts 84 = .ok (.getfield 155, 3) := by decide +kernel
theorem d_X12_parts_87 : decode cX12_parts 87 = .ok (.iload_n 1, 1) := by decide +kernel
theorem d_X12_parts_88 : decode cX12_parts 88 = .ok (.iload 4, 2) := by decide +kernel
theorem d_X12_parts_90 : decode cX12_parts 90 = .ok (.iastore, 1) := by decide +kernel
theorem d_X12_parts_91 : decode cX12_parts 91 = .ok (.iconst 0, 1) := by decide +kernel
theorem d_X12_parts_92 : decode cX12_parts 92 = .ok (.istore 5, 2) := by decide +kernel
theorem d_X12_parts_94 : decode cX12_parts 94 = .ok (.iconst 0, 1) := by decide +kernel
theorem d_X12_parts_95 : decode cX12_parts 95 = .ok (.istore 6, 2) := by decide +kernel
theorem d_X12_parts_97 : decode cX12_parts 97 = .ok (.iload 6, 2) := by decide +kernel
theorem d_X12_parts_99 : decode cX12_parts 99 = .ok (.aload_n 0, 1) := by decide +kernel
theorem d_X12_parts_100 : decode cX12_parts 100 = .ok (.invokevirtual 194, 3) := by decide +kernel
theorem d_X12_parts_103 : decode cX12_parts 103 = .ok (.if_icmp .ge 63, 3) := by decide +kernel
theorem d_X12_parts_106 : decode cX12_parts 106 = .ok (.aload_n 0, 1) := by decide +kernel
theorem d_X12_parts_107 : decode cX12_parts 107 = .ok (.iload 6, 2) := by decide +kernel
theorem d_X12_parts_109 : decode cX12_parts 109 = .ok (.invokevirtual 200, 3) := by decide +kernel
theorem d_X12_parts_112 : decode cX12_parts 112 = .ok (.ifCond .ne 48, 3) := by decide +kernel
theorem d_X12_parts_115 : decode cX12_parts 115 = .ok (.aload_n 0, 1) := by decide +kernel
theorem d_X12_parts_116 : decode cX12_parts 116 = .ok (.iload 6, 2) := by decide +kernel
theorem d_X12_parts_118 : decode cX12_parts 118 = .ok (.iload_n 1, 1) := by decide +kernel
theorem d_X12_parts_119 : decode cX12_parts 119 = .ok (.invokevirtual 353, 3) := by decide +kernel
theorem d_X12_parts_122 : decode cX12_parts 122 = .ok (.ifCond .eq 38, 3) := by decide +kernel
theorem d_X12_parts_125 : decode cX12_parts 125 = .ok (.aload_n 0, 1) := by decide +kernel
theorem d_X12_parts_126 : decode cX12_parts 126 = .ok (.getfield 155, 3) := by decide +kernel
theorem d_X12_parts_129 : decode cX12_parts 129 = .ok (.aload_n 0, 1) := by decide +kernel
theorem d_X12_parts_130 : decode cX12_parts 130 = .ok (.getfield 99, 3) := by decide +kernel
theorem d_X12_parts_133 : decode cX12_parts 133 = .ok (.iconst 3, 1) := by decide +kernel
theorem d_X12_parts_134 : decode cX12_parts 134 = .ok (.iload 6, 2) := by decide +kernel
theorem d_X12_parts_136 : decode cX12_parts 136 = .ok (.iadd, 1) := by decide +kernel
theorem d_X12_parts_137 : decode cX12_parts 137 = .ok (.iaload, 1) := by decide +kernel
theorem d_X12_parts_138 : decode cX12_parts 138 = .ok (.iaload, 1) := by decide +kernel
theorem d_X12_parts_139 : decode cX12_parts 139 = .ok (.aload_n 0, 1) := by decide +kernel
theorem d_X12_parts_140 : decode cX12_parts 140 = .ok (.getfield 155, 3) := by decide +kernel
theorem d_X12_parts_143 : decode cX12_parts 143 = .ok (.aload_n 0, 1) := by decide +kernel
theorem d_X12_parts_144 : decode cX12_parts 144 = .ok (.getfield 99, 3) := by decide +kernel
theorem d_X12_parts_147 : decode cX12_parts 147 = .ok (.bipush 27, 2) := by decide +kernel
theorem d_X12_parts_149 : decode cX12_parts 149 = .ok (.iload 6, 2) := by decide +kernel
theorem d_X12_parts_151 : decode cX12_parts 151 = .ok (.iadd, 1) := by decide +kernel
theorem d_X12_parts_152 : decode cX12_parts 152 = .ok (.iaload, 1) := by decide +kernel
theorem d_X12_parts_153 : decode cX12_parts 153 = .ok (.iaload, 1) := by decide +kernel
theorem d_X12_parts_154 : decode cX12_parts 154 = .ok (.if_icmp .eq 6, 3) := by decide +kernel
theorem d_X12_parts_157 : decode cX12_parts 157 = .ok (.iinc 5 1, 3) := by decide +kernel
theorem d_X12_parts_160 : decode cX12_parts 160 = .ok (.iinc 6 1, 3) := by decide +kernel
theorem d_X12_parts_163 : decode cX12_parts 163 = .ok (.goto (-66), 3) := by decide +kernel
theorem d_X12_parts_166 : decode cX12_parts 166 = .ok (.aload_n 0, 1) := by decide +kernel
theorem d_X12_parts_167 : decode cX12_parts 167 = .ok (.iload_n 1, 1) := by decide +kernel
theorem d_X12_parts_168 : decode cX12_parts 168 = .ok (.iconst 1, 1) := by decide +kernel
theorem d_X12_parts_169 : decode cX12_parts 169 = .ok (.iadd, 1) := by decide +kernel
theorem d_X12_parts_170 : decode cX12_parts 170 = .ok (.iload 4, 2) := by decide +kernel
theorem d_X12_parts_172 : decode cX12_parts 172 = .ok (.iload_n 2, 1) := by decide +kernel
theorem d_X12_parts_173 : decode cX12_parts 173 = .ok (.if_icmp .ne 9, 3) := by decide +kernel
theorem d_X12_parts_176 : decode cX12_parts 176 = .ok (.iload_n 2, 1) := by decide +kernel
theorem d_X12_parts_177 : decode cX12_parts 177 = .ok (.iconst 1, 1) := by decide +kernel
theorem d_X12_parts_178 : decode cX12_parts 178 = .ok (.iadd, 1) := by decide +kernel
theorem d_X12_parts_179 : decode cX12_parts 179 = .ok (.goto 4, 3) := by decide +kernel
theorem d_X12_parts_182 : decode cX12_parts 182 = .ok (.iload_n 2, 1) := by decide +kernel
theorem d_X12_parts_183 : decode cX12_parts 183 = .ok (.iload_n 3, 1) := by decide +kernel
theorem d_X12_parts_184 : decode cX12_parts 184 = .ok (.iload 5, 2) := by decide +kernel
theorem d_X12_parts_186 : decode cX12_parts 186 = .ok (.iadd, 1) := by decide +kernel
theorem d_X12_parts_187 : decode cX12_parts 187 = .ok (.invokevirtual 356, 3) := by decide +kernel
theorem d_X12_parts_190 : decode cX12_parts 190 = .ok (.iinc 4 1, 3) := by decide +kernel
theorem d_X12_parts_193 : decode cX12_parts 193 = .ok (.goto (-116), 3) := by decide +kernel
theorem d_X12_parts_196 : decode cX12_parts 196 = .ok (.return_, 1) := by decide +kernel
theorem d_X12_strength_0 : decode cX12_strength 0 = .ok (.aload_n 0, 1) := by decide +kernel
theorem d_X12_strength_1 : decode cX12_strength 1 = .ok (.iconst 0, 1) := by decide +kernel
theorem d_X12_strength_2 : decode cX12_strength 2 = .ok (.putfield 1, 3) := by decide +kernel
theorem d_X12_strength_5 : decode cX12_strength 5 = .ok (.aload_n 0, 1) := by decide +kernel
theorem d_X12_strength_6 : decode cX12_strength 6 = .ok (.invokevirtual 191, 3) := by decide +kernel
theorem d_X12_strength_9 : decode cX12_strength 9 = .ok (.iconst 2, 1) := by decide +kernel
theorem d_X12_strength_10 : decode cX12_strength 10 = .ok (.if_icmp .lt 12, 3) := by decide +kernel
theorem d_X12_strength_13 : decode cX12_strength 13 = .ok (.iload_n 1, 1) := by decide +kernel
theorem d_X12_strength_14 : decode cX12_strength 14 = .ok (.iconst 0, 1) := by decide +kernel
theorem d_X12_strength_15 : decode cX12_strength 15 = .ok (.iconst 2, 1) := by decide +kernel
theorem d_X12_strength_16 : decode cX12_strength 16 = .ok (.invokestatic 83, 3) := by decide +kernel
theorem d_X12_strength_19 : decode cX12_strength 19 = .ok (.ifCond .ne 5, 3) := by decide +kernel
theorem d_X12_strength_22 : decode cX12_strength 22 = .ok (.iconst (-1), 1) := by decide +kernel
theorem d_X12_strength_23 : decode cX12_strength 23 = .ok (.ireturn, 1) := by decide +kernel
theorem d_X12_strength_24 : decode cX12_strength 24 = .ok (.aload_n 0, 1) := by decide +kernel
theorem d_X12_strength_25 : decode cX12_strength 25 = .ok (.iconst 0, 1) := by decide +kernel
theorem d_X12_strength_26 : decode cX12_strength 26 = .ok (.putfield 347, 3) := by decide +kernel
theorem d_X12_strength_29 : decode cX12_strength 29 = .ok (.aload_n 0, 1) := by decide +kernel
theorem d_X12_strength_30 : decode cX12_strength 30 = .ok (.iconst 0, 1) := by decide +kernel
theorem d_X12_strength_31 : decode cX12_strength 31 = .ok (.putfield 350, 3) := by decide +kernel
theorem d_X12_strength_34 : decode cX12_strength 34 = .ok (.aload_n 0, 1) := by decide +kernel
theorem d_X12_strength_35 : decode cX12_strength 35 = .ok (.iconst 0, 1) := by decide +kernel
theorem d_X12_strength_36 : decode cX12_strength 36 = .ok (.iconst 0, 1) := by decide +kernel
theorem d_X12_strength_37 : decode cX12_strength 37 = .ok (.iconst 0, 1) := by decide +kernel
theorem d_X12_strength_38 : decode cX12_strength 38 = .ok (.invokevirtual 356, 3) := by decide +kernel
theorem d_X12_strength_41 : decode cX12_strength 41 = .ok (.iload_n 1, 1) := by decide +kernel
theorem d_X12_strength_42 : decode cX12_strength 42 = .ok (.iconst 2, 1) := by decide +kernel
theorem d_X12_strength_43 : decode cX12_strength 43 = .ok (.if_icmp .ne 10, 3) := by decide +kernel
theorem d_X12_strength_46 : decode cX12_strength 46 = .ok (.aload_n 0, 1) := by decide +kernel
theorem d_X12_strength_47 : decode cX12_strength 47 = .ok (.getfield 347, 3) := by decide +kernel
theorem d_X12_strength_50 : decode cX12_strength 50 = .ok (.goto 17, 3) := by decide +kernel
theorem d_X12_strength_53 : decode cX12_strength 53 = .ok (.aload_n 0, 1) := by decide +kernel
theorem d_X12_strength_54 : decode cX12_strength 54 = .ok (.getfield 350, 3) := by decide +kernel
theorem d_X12_strength_57 : decode cX12_strength 57 = .ok (.aload_n 0, 1) := by decide +kernel
theorem d_X12_strength_58 : decode cX12_strength 58 = .ok (.getfield 347, 3) := by decide +kernel
theorem d_X12_strength_61 : decode cX12_strength 61 = .ok (.iconst 1, 1) := by decide +kernel
theorem d_X12_strength_62 : decode cX12_strength 62 = .ok (.isub, 1) := by decide +kernel
theorem d_X12_strength_63 : decode cX12_strength 63 = .ok (.iload_n 1, 1) := by decide +kernel
theorem d_X12_strength_64 : decode cX12_strength 64 = .ok (.invokestatic 343, 3) := by decide +kernel
theorem d_X12_strength_67 : decode cX12_strength 67 = .ok (.ireturn, 1) := by decide +kernel
theorem d_X12_rootedBy_0 : decode cX12_rootedBy 0 = .ok (.sipush 1000, 3) := by decide +kernel
theorem d_X12_rootedBy_3 : decode cX12_rootedBy 3 = .ok (.istore_n 3, 1) := by decide +kernel
theorem d_X12_rootedBy_4 : decode cX12_rootedBy 4 = .ok (.iconst 1, 1) := by decide +kernel
theorem d_X12_rootedBy_5 : decode cX12_rootedBy 5 = .ok (.istore 4, 2) := by decide +kernel
theorem d_X12_rootedBy_7 : decode cX12_rootedBy 7 = .ok (.iload 4, 2) := by decide +kernel
theorem d_X12_rootedBy_9 : decode cX12_rootedBy 9 = .ok (.iconst 1, 1) := by decide +kernel
theorem d_X12_rootedBy_10 : decode cX12_rootedBy 10 = .ok (.aload_n 0, 1) := by decide +kernel
theorem d_X12_rootedBy_11 : decode cX12_rootedBy 11 = .ok (.invokevirtual 191, 3) := by decide +kernel
theorem d_X12_rootedBy_14 : decode cX12_rootedBy 14 = .ok (.ishl, 1) := by decide +kernel
theorem d_X12_rootedBy_15 : decode cX12_rootedBy 15 = .ok (.if_icmp .ge 91, 3) := by decide +kernel
theorem d_X12_rootedBy_18 : decode cX12_rootedBy 18 = .ok (.iload 4, 2) := by decide +kernel
theorem d_X12_rootedBy_20 : decode cX12_rootedBy 20 = .ok (.iload_n 1, 1) := by decide +kernel
theorem d_X12_rootedBy_21 : decode cX12_rootedBy 21 = .ok (.invokestatic 206, 3) := by decide +kernel
theorem d_X12_rootedBy_24 : decode cX12_rootedBy 24 = .ok (.ifCond .eq 6, 3) := by decide +kernel
theorem d_X12_rootedBy_27 : decode cX12_rootedBy 27 = .ok (.goto 73, 3) := by decide +kernel
theorem d_X12_rootedBy_30 : decode cX12_rootedBy 30 = .ok (.iconst 0, 1) := by decide +kernel
theorem d_X12_rootedBy_31 : decode cX12_rootedBy 31 = .ok (.istore 5, 2) := by decide +kernel
theorem d_X12_rootedBy_33 : decode cX12_rootedBy 33 = .ok (.iconst 0, 1) := by decide +kernel
theorem d_X12_rootedBy_34 : decode cX12_rootedBy 34 = .ok (.istore 6, 2) := by decide +kernel
theorem d_X12_rootedBy_36 : decode cX12_rootedBy 36 = .ok (.iload 6, 2) := by decide +kernel
theorem d_X12_rootedBy_38 : decode cX12_rootedBy 38 = .ok (.aload_n 0, 1) := by decide +kernel
theorem d_X12_rootedBy_39 : decode cX12_rootedBy 39 = .ok (.invokevirtual 194, 3) := by decide +kernel
theorem d_X12_rootedBy_42 : decode cX12_rootedBy 42 = .ok (.if_icmp .ge 49, 3) := by decide +kernel
theorem d_X12_rootedBy_45 : decode cX12_rootedBy 45 = .ok (.iload_n 2, 1) := by decide +kernel
theorem d_X12_rootedBy_46 : decode cX12_rootedBy 46 = .ok (.iload 6, 2) := by decide +kernel
theorem d_X12_rootedBy_48 : decode cX12_rootedBy 48 = .ok (.invokestatic 206, 3) := by decide +kernel
theorem d_X12_rootedBy_51 : decode cX12_rootedBy 51 = .ok (.ifCond .eq 34, 3) := by decide +kernel
theorem d_X12_rootedBy_54 : decode cX12_rootedBy 54 = .ok (.iload 4, 2) := by decide +kernel
theorem d_X12_rootedBy_56 : decode cX12_rootedBy 56 = .ok (.aload_n 0, 1) := by decide +kernel
theorem d_X12_rootedBy_57 : decode cX12_rootedBy 57 = .ok (.iload 6, 2) := by decide +kernel
theorem d_X12_rootedBy_59 : decode cX12_rootedBy 59 = .ok (.invokevirtual 301, 3) := by decide +kernel
theorem d_X12_rootedBy_62 : decode cX12_rootedBy 62 = .ok (.invokestatic 206, 3) := by decide +kernel
theorem d_X12_rootedBy_65 : decode cX12_rootedBy 65 = .ok (.ifCond .ne 20, 3) := by decide +kernel
theorem d_X12_rootedBy_68 : decode cX12_rootedBy 68 = .ok (.iload 4, 2) := by decide +kernel
theorem d_X12_rootedBy_70 : decode cX12_rootedBy 70 = .ok (.aload_n 0, 1) := by decide +kernel
theorem d_X12_rootedBy_71 : decode cX12_rootedBy 71 = .ok (.iload 6, 2) := by decide +kernel
theorem d_X12_rootedBy_73 : decode cX12_rootedBy 73 = .ok (.invokevirtual 310, 3) := by decide +kernel
theorem d_X12_rootedBy_76 : decode cX12_rootedBy 76 = .ok (.invokestatic 206, 3) := by decide +kernel
theorem d_X12_rootedBy_79 : decode cX12_rootedBy 79 = .ok (.ifCond .eq 6, 3) := by decide +kernel
theorem d_X12_rootedBy_82 : decode cX12_rootedBy 82 = .ok (.iinc 5 1, 3) := by decide +kernel
theorem d_X12_rootedBy_85 : decode cX12_rootedBy 85 = .ok (.iinc 6 1, 3) := by decide +kernel
theorem d_X12_rootedBy_88 : decode cX12_rootedBy 88 = .ok (.goto (-52), 3) := by decide +kernel
theorem d_X12_rootedBy_91 : decode cX12_rootedBy 91 = .ok (.iload 5, 2) := by decide +kernel
theorem d_X12_rootedBy_93 : decode cX12_rootedBy 93 = .ok (.iload_n 3, 1) := by decide +kernel
theorem d_X12_rootedBy_94 : decode cX12_rootedBy 94 = .ok (.if_icmp .ge 6, 3) := by decide +kernel
theorem d_X12_rootedBy_97 : decode cX12_rootedBy 97 = .ok (.iload 5, 2) := by decide +kernel
theorem d_X12_rootedBy_99 : decode cX12_rootedBy 99 = .ok (.istore_n 3, 1) := by decide +kernel
theorem d_X12_rootedBy_100 : decode cX12_rootedBy 100 = .ok (.iinc 4 1, 3) := by decide +kernel
theorem d_X12_rootedBy_103 : decode cX12_rootedBy 103 = .ok (.goto (-96), 3) := by decide +kernel
theorem d_X12_rootedBy_106 : decode cX12_rootedBy 106 = .ok (.iload_n 3, 1) := by decide +kernel
theorem d_X12_rootedBy_107 : decode cX12_rootedBy 107 = .ok (.ireturn, 1) := by decide +kernel
theorem d_X12_rooted_0 : decode cX12_rooted 0 = .ok (.aload_n 0, 1) := by decide +kernel
theorem d_X12_rooted_1 : decode cX12_rooted 1 = .ok (.iconst 0, 1) := by decide +kernel
theorem d_X12_rooted_2 : decode cX12_rooted 2 = .ok (.putfield 1, 3) := by decide +kernel
theorem d_X12_rooted_5 : decode cX12_rooted 5 = .ok (.aload_n 0, 1) := by decide +kernel
theorem d_X12_rooted_6 : decode cX12_rooted 6 = .ok (.iload_n 1, 1) := by decide +kernel
theorem d_X12_rooted_7 : decode cX12_rooted 7 = .ok (.invokevirtual 304, 3) := by decide +kernel
theorem d_X12_rooted_10 : decode cX12_rooted 10 = .ok (.ifCond .eq 23, 3) := by decide +kernel
theorem d_X12_rooted_13 : decode cX12_rooted 13 = .ok (.aload_n 0, 1) := by decide +kernel
theorem d_X12_rooted_14 : decode cX12_rooted 14 = .ok (.invokevirtual 191, 3) := by decide +kernel
theorem d_X12_rooted_17 : decode cX12_rooted 17 = .ok (.iconst 1, 1) := by decide +kernel
theorem d_X12_rooted_18 : decode cX12_rooted 18 = .ok (.if_icmp .le 15, 3) := by decide +kernel
theorem d_X12_rooted_21 : decode cX12_rooted 21 = .ok (.aload_n 0, 1) := by decide +kernel
theorem d_X12_rooted_22 : decode cX12_rooted 22 = .ok (.iload_n 1, 1) := by decide +kernel
theorem d_X12_rooted_23 : decode cX12_rooted 23 = .ok (.aload_n 0, 1) := by decide +kernel
theorem d_X12_rooted_24 : decode cX12_rooted 24 = .ok (.invokevirtual 233, 3) := by decide +kernel
theorem d_X12_rooted_27 : decode cX12_rooted 27 = .ok (.invokevirtual 360, 3) := by decide +kernel
theorem d_X12_rooted_30 : decode cX12_rooted 30 = .ok (.goto 4, 3) := by decide +kernel
theorem d_X12_rooted_33 : decode cX12_rooted 33 = .ok (.iconst (-1), 1) := by decide +kernel
theorem d_X12_rooted_34 : decode cX12_rooted 34 = .ok (.ireturn, 1) := by decide +kernel
theorem d_X12_treeFrom_0 : decode cX12_treeFrom 0 = .ok (.iconst 1, 1) := by decide +kernel
theorem d_X12_treeFrom_1 : decode cX12_treeFrom 1 = .ok (.iload_n 1, 1) := by decide +kernel
theorem d_X12_treeFrom_2 : decode cX12_treeFrom 2 = .ok (.ishl, 1) := by decide +kernel
theorem d_X12_treeFrom_3 : decode cX12_treeFrom 3 = .ok (.istore 4, 2) := by decide +kernel
theorem d_X12_treeFrom_5 : decode cX12_treeFrom 5 = .ok (.iconst 0, 1) := by decide +kernel
theorem d_X12_treeFrom_6 : decode cX12_treeFrom 6 = .ok (.istore 5, 2) := by decide +kernel
theorem d_X12_treeFrom_8 : decode cX12_treeFrom 8 = .ok (.iload 4, 2) := by decide +kernel
theorem d_X12_treeFrom_10 : decode cX12_treeFrom 10 = .ok (.iconst 1, 1) := by decide +kernel
theorem d_X12_treeFrom_11 : decode cX12_treeFrom 11 = .ok (.aload_n 0, 1) := by decide +kernel
theorem d_X12_treeFrom_12 : decode cX12_treeFrom 12 = .ok (.invokevirtual 191, 3) := by decide +kernel
theorem d_X12_treeFrom_15 : decode cX12_treeFrom 15 = .ok (.ishl, 1) := by decide +kernel
theorem d_X12_treeFrom_16 : decode cX12_treeFrom 16 = .ok (.iconst 1, 1) := by decide +kernel
theorem d_X12_treeFrom_17 : decode cX12_treeFrom 17 = .ok (.isub, 1) := by decide +kernel
theorem d_X12_treeFrom_18 : decode cX12_treeFrom 18 = .ok (.if_icmp .eq 103, 3) := by decide +kernel
theorem d_X12_treeFrom_21 : decode cX12_treeFrom 21 = .ok (.iconst 0, 1) := by decide +kernel
theorem d_X12_treeFrom_22 : decode cX12_treeFrom 22 = .ok (.istore 6, 2) := by decide +kernel
theorem d_X12_treeFrom_24 : decode cX12_treeFrom 24 = .ok (.iload_n 2, 1) := by decide +kernel
theorem d_X12_treeFrom_25 : decode cX12_treeFrom 25 = .ok (.iload 5, 2) := by decide +kernel
theorem d_X12_treeFrom_27 : decode cX12_treeFrom 27 = .ok (.iconst (-1), 1) := by decide +kernel
theorem d_X12_treeFrom_28 : decode cX12_treeFrom 28 = .ok (.ixor, 1) := by decide +kernel
theorem d_X12_treeFrom_29 : decode cX12_treeFrom 29 = .ok (.iand, 1) := by decide +kernel
theorem d_X12_treeFrom_30 : decode cX12_treeFrom 30 = .ok (.iload 6, 2) := by decide +kernel
theorem d_X12_treeFrom_32 : decode cX12_treeFrom 32 = .ok (.invokestatic 206, 3) := by decide +kernel
theorem d_X12_treeFrom_35 : decode cX12_treeFrom 35 = .ok (.ifCond .eq 57, 3) := by decide +kernel
theorem d_X12_treeFrom_38 : decode cX12_treeFrom 38 = .ok (.iload 4, 2) := by decide +kernel
theorem d_X12_treeFrom_40 : decode cX12_treeFrom 40 = .ok (.aload_n 0, 1) := by decide +kernel
theorem d_X12_treeFrom_41 : decode cX12_treeFrom 41 = .ok (.iload 6, 2) := by decide +kernel
theorem d_X12_treeFrom_43 : decode cX12_treeFrom 43 = .ok (.invokevirtual 301, 3) := by decide +kernel
theorem d_X12_treeFrom_46 : decode cX12_treeFrom 46 = .ok (.invokestatic 206, 3) := by decide +kernel
theorem d_X12_treeFrom_49 : decode cX12_treeFrom 49 = .ok (.ifCond .eq 43, 3) := by decide +kernel
theorem d_X12_treeFrom_52 : decode cX12_treeFrom 52 = .ok (.iload 4, 2) := by decide +kernel
theorem d_X12_treeFrom_54 : decode cX12_treeFrom 54 = .ok (.aload_n 0, 1) := by decide +kernel
theorem d_X12_treeFrom_55 : decode cX12_treeFrom 55 = .ok (.iload 6, 2) := by decide +kernel
theorem d_X12_treeFrom_57 : decode cX12_treeFrom 57 = .ok (.invokevirtual 310, 3) := by decide +kernel
theorem d_X12_treeFrom_60 : decode cX12_treeFrom 60 = .ok (.invokestatic 206, 3) := by decide +kernel
theorem d_X12_treeFrom_63 : decode cX12_treeFrom 63 = .ok (.ifCond .ne 29, 3) := by decide +kernel
theorem d_X12_treeFrom_66 : decode cX12_treeFrom 66 = .ok (.iload_n 3, 1) := by decide +kernel
theorem d_X12_treeFrom_67 : decode cX12_treeFrom 67 = .ok (.ifCond .le 31, 3) := by decide +kernel
theorem d_X12_treeFrom_70 : decode cX12_treeFrom 70 = .ok (.aload_n 0, 1) := by decide +kernel
theorem d_X12_treeFrom_71 : decode cX12_treeFrom 71 = .ok (.iload_n 1, 1) := by decide +kernel
theorem d_X12_treeFrom_72 : decode cX12_treeFrom 72 = .ok (.iload_n 2, 1) := by decide +kernel
theorem d_X12_treeFrom_73 : decode cX12_treeFrom 73 = .ok (.iload 5, 2) := by decide +kernel
theorem d_X12_treeFrom_75 : decode cX12_treeFrom 75 = .ok (.iconst (-1), 1) := by decide +kernel
theorem d_X12_treeFrom_76 : decode cX12_treeFrom 76 = .ok (.ixor, 1) := by decide +kernel
theorem d_X12_treeFrom_77 : decode cX12_treeFrom 77 = .ok (.iand, 1) := by decide +kernel
theorem d_X12_treeFrom_78 : decode cX12_treeFrom 78 = .ok (.iconst 1, 1) := by decide +kernel
theorem d_X12_treeFrom_79 : decode cX12_treeFrom 79 = .ok (.iload 6, 2) := by decide +kernel
theorem d_X12_treeFrom_81 : decode cX12_treeFrom 81 = .ok (.ishl, 1) := by decide +kernel
theorem d_X12_treeFrom_82 : decode cX12_treeFrom 82 = .ok (.iconst (-1), 1) := by decide +kernel
theorem d_X12_treeFrom_83 : decode cX12_treeFrom 83 = .ok (.ixor, 1) := by decide +kernel
theorem d_X12_treeFrom_84 : decode cX12_treeFrom 84 = .ok (.iand, 1) := by decide +kernel
theorem d_X12_treeFrom_85 : decode cX12_treeFrom 85 = .ok (.invokevirtual 360, 3) := by decide +kernel
theorem d_X12_treeFrom_88 : decode cX12_treeFrom 88 = .ok (.iload_n 3, 1) := by decide +kernel
theorem d_X12_treeFrom_89 : decode cX12_treeFrom 89 = .ok (.if_icmp .ge 9, 3) := by decide +kernel
theorem d_X12_treeFrom_92 : decode cX12_treeFrom 92 = .ok (.iinc 6 1, 3) := by decide +kernel
theorem d_X12_treeFrom_95 : decode cX12_treeFrom 95 = .ok (.goto (-71), 3) := by decide +kernel
theorem d_X12_treeFrom_98 : decode cX12_treeFrom 98 = .ok (.iload 5, 2) := by decide +kernel
theorem d_X12_treeFrom_100 : decode cX12_treeFrom 100 = .ok (.iconst 1, 1) := by decide +kernel
theorem d_X12_treeFrom_101 : decode cX12_treeFrom 101 = .ok (.iload 6, 2) := by decide +kernel
theorem d_X12_treeFrom_103 : decode cX12_treeFrom 103 = .ok (.ishl, 1) := by decide +kernel
theorem d_X12_treeFrom_104 : decode cX12_treeFrom 104 = .ok (.ior, 1) := by decide +kernel
theorem d_X12_treeFrom_105 : decode cX12_treeFrom 105 = .ok (.istore 5, 2) := by decide +kernel
theorem d_X12_treeFrom_107 : decode cX12_treeFrom 107 = .ok (.iload 4, 2) := by decide +kernel
theorem d_X12_treeFrom_109 : decode cX12_treeFrom 109 = .ok (.aload_n 0, 1) := by decide +kernel
theorem d_X12_treeFrom_110 : decode cX12_treeFrom 110 = .ok (.iload 6, 2) := by decide +kernel
theorem d_X12_treeFrom_112 : decode cX12_treeFrom 112 = .ok (.invokevirtual 209, 3) := by decide +kernel
theorem d_X12_treeFrom_115 : decode cX12_treeFrom 115 = .ok (.ior, 1) := by decide +kernel
theorem d_X12_treeFrom_116 : decode cX12_treeFrom 116 = .ok (.istore 4, 2) := by decide +kernel
theorem d_X12_treeFrom_118 : decode cX12_treeFrom 118 = .ok (.goto (-110), 3) := by decide +kernel
theorem d_X12_treeFrom_121 : decode cX12_treeFrom 121 = .ok (.iload 5, 2) := by decide +kernel
theorem d_X12_treeFrom_123 : decode cX12_treeFrom 123 = .ok (.ireturn, 1) := by decide +kernel
theorem d_X12_outTree_0 : decode cX12_outTree 0 = .ok (.aload_n 0, 1) := by decide +kernel
theorem d_X12_outTree_1 : decode cX12_outTree 1 = .ok (.iconst 0, 1) := by decide +kernel
theorem d_X12_outTree_2 : decode cX12_outTree 2 = .ok (.putfield 1, 3) := by decide +kernel
theorem d_X12_outTree_5 : decode cX12_outTree 5 = .ok (.aload_n 0, 1) := by decide +kernel
theorem d_X12_outTree_6 : decode cX12_outTree 6 = .ok (.iload_n 1, 1) := by decide +kernel
theorem d_X12_outTree_7 : decode cX12_outTree 7 = .ok (.invokevirtual 304, 3) := by decide +kernel
theorem d_X12_outTree_10 : decode cX12_outTree 10 = .ok (.ifCond .eq 11, 3) := by decide +kernel
theorem d_X12_outTree_13 : decode cX12_outTree 13 = .ok (.aload_n 0, 1) := by decide +kernel
theorem d_X12_outTree_14 : decode cX12_outTree 14 = .ok (.invokevirtual 191, 3) := by decide +kernel
theorem d_X12_outTree_17 : decode cX12_outTree 17 = .ok (.iconst 2, 1) := by decide +kernel
theorem d_X12_outTree_18 : decode cX12_outTree 18 = .ok (.if_icmp .ge 5, 3) := by decide +kernel
theorem d_X12_outTree_21 : decode cX12_outTree 21 = .ok (.iconst (-1), 1) := by decide +kernel
theorem d_X12_outTree_22 : decode cX12_outTree 22 = .ok (.ireturn, 1) := by decide +kernel
theorem d_X12_outTree_23 : decode cX12_outTree 23 = .ok (.aload_n 0, 1) := by decide +kernel
theorem d_X12_outTree_24 : decode cX12_outTree 24 = .ok (.invokevirtual 233, 3) := by decide +kernel
theorem d_X12_outTree_27 : decode cX12_outTree 27 = .ok (.istore_n 3, 1) := by decide +kernel
theorem d_X12_outTree_28 : decode cX12_outTree 28 = .ok (.aload_n 0, 1) := by decide +kernel
theorem d_X12_outTree_29 : decode cX12_outTree 29 = .ok (.iload_n 1, 1) := by decide +kernel
theorem d_X12_outTree_30 : decode cX12_outTree 30 = .ok (.iload_n 3, 1) := by decide +kernel
theorem d_X12_outTree_31 : decode cX12_outTree 31 = .ok (.invokevirtual 360, 3) := by decide +kernel
theorem d_X12_outTree_34 : decode cX12_outTree 34 = .ok (.istore 4, 2) := by decide +kernel
theorem d_X12_outTree_36 : decode cX12_outTree 36 = .ok (.iload_n 2, 1) := by decide +kernel
theorem d_X12_outTree_37 : decode cX12_outTree 37 = .ok (.iconst 0, 1) := by decide +kernel
theorem d_X12_outTree_38 : decode cX12_outTree 38 = .ok (.iload 4, 2) := by decide +kernel
theorem d_X12_outTree_40 : decode cX12_outTree 40 = .ok (.iconst 1, 1) := by decide +kernel
theorem d_X12_outTree_41 : decode cX12_outTree 41 = .ok (.isub, 1) := by decide +kernel
theorem d_X12_outTree_42 : decode cX12_outTree 42 = .ok (.invokestatic 83, 3) := by decide +kernel
theorem d_X12_outTree_45 : decode cX12_outTree 45 = .ok (.ifCond .ne 5, 3) := by decide +kernel
theorem d_X12_outTree_48 : decode cX12_outTree 48 = .ok (.iconst (-1), 1) := by decide +kernel
theorem d_X12_outTree_49 : decode cX12_outTree 49 = .ok (.ireturn, 1) := by decide +kernel
theorem d_X12_outTree_50 : decode cX12_outTree 50 = .ok (.iconst 0, 1) := by decide +kernel
theorem d_X12_outTree_51 : decode cX12_outTree 51 = .ok (.istore 5, 2) := by decide +kernel
theorem d_X12_outTree_53 : decode cX12_outTree 53 = .ok (.iconst 0, 1) := by decide +kernel
theorem d_X12_outTree_54 : decode cX12_outTree 54 = .ok (.istore 6, 2) := by decide +kernel
theorem d_X12_outTree_56 : decode cX12_outTree 56 = .ok (.iload 6, 2) := by decide +kernel
theorem d_X12_outTree_58 : decode cX12_outTree 58 = .ok (.iload_n 2, 1) := by decide +kernel
theorem d_X12_outTree_59 : decode cX12_outTree 59 = .ok (.if_icmp .gt 31, 3) := by decide +kernel
theorem d_X12_outTree_62 : decode cX12_outTree 62 = .ok (.aload_n 0, 1) := by decide +kernel
theorem d_X12_outTree_63 : decode cX12_outTree 63 = .ok (.iload_n 1, 1) := by decide +kernel
theorem d_X12_outTree_64 : decode cX12_outTree 64 = .ok (.iload_n 3, 1) := by decide +kernel
theorem d_X12_outTree_65 : decode cX12_outTree 65 = .ok (.iload 4, 2) := by decide +kernel
theorem d_X12_outTree_67 : decode cX12_outTree 67 = .ok (.iconst 1, 1) := by decide +kernel
theorem d_X12_outTree_68 : decode cX12_outTree 68 = .ok (.isub, 1) := by decide +kernel
theorem d_X12_outTree_69 : decode cX12_outTree 69 = .ok (.iload 6, 2) := by decide +kernel
theorem d_X12_outTree_71 : decode cX12_outTree 71 = .ok (.isub, 1) := by decide +kernel
theorem d_X12_outTree_72 : decode cX12_outTree 72 = .ok (.invokevirtual 363, 3) := by decide +kernel
theorem d_X12_outTree_75 : decode cX12_outTree 75 = .ok (.istore 5, 2) := by decide +kernel
theorem d_X12_outTree_77 : decode cX12_outTree 77 = .ok (.iload_n 3, 1) := by decide +kernel
theorem d_X12_outTree_78 : decode cX12_outTree 78 = .ok (.iload 5, 2) := by decide +kernel
theorem d_X12_outTree_80 : decode cX12_outTree 80 = .ok (.iconst (-1), 1) := by decide +kernel
theorem d_X12_outTree_81 : decode cX12_outTree 81 = .ok (.ixor, 1) := by decide +kernel
theorem d_X12_outTree_82 : decode cX12_outTree 82 = .ok (.iand, 1) := by decide +kernel
theorem d_X12_outTree_83 : decode cX12_outTree 83 = .ok (.istore_n 3, 1) := by decide +kernel
theorem d_X12_outTree_84 : decode cX12_outTree 84 = .ok (.iinc 6 1, 3) := by decide +kernel
theorem d_X12_outTree_87 : decode cX12_outTree 87 = .ok (.goto (-31), 3) := by decide +kernel
theorem d_X12_outTree_90 : decode cX12_outTree 90 = .ok (.iload 5, 2) := by decide +kernel
theorem d_X12_outTree_92 : decode cX12_outTree 92 = .ok (.ireturn, 1) := by decide +kernel
theorem d_X12_laysLayers_0 : decode cX12_laysLayers 0 = .ok (.aload_n 0, 1) := by decide +kernel
theorem d_X12_laysLayers_1 : decode cX12_laysLayers 1 = .ok (.invokevirtual 337, 3) := by decide +kernel
theorem d_X12_laysLayers_4 : decode cX12_laysLayers 4 = .ok (.aload_n 0, 1) := by decide +kernel
theorem d_X12_laysLayers_5 : decode cX12_laysLayers 5 = .ok (.iconst 0, 1) := by decide +kernel
theorem d_X12_laysLayers_6 : decode cX12_laysLayers 6 = .ok (.putfield 366, 3) := by decide +kernel
theorem d_X12_laysLayers_9 : decode cX12_laysLayers 9 = .ok (.iconst 1, 1) := by decide +kernel
theorem d_X12_laysLayers_10 : decode cX12_laysLayers 10 = .ok (.aload_n 0, 1) := by decide +kernel
theorem d_X12_laysLayers_11 : decode cX12_laysLayers 11 = .ok (.invokevirtual 191, 3) := by decide +kernel
theorem d_X12_laysLayers_14 : decode cX12_laysLayers 14 = .ok (.ishl, 1) := by decide +kernel
theorem d_X12_laysLayers_15 : decode cX12_laysLayers 15 = .ok (.iconst 1, 1) := by decide +kernel
theorem d_X12_laysLayers_16 : decode cX12_laysLayers 16 = .ok (.isub, 1) := by decide +kernel
theorem d_X12_laysLayers_17 : decode cX12_laysLayers 17 = .ok (.istore_n 1, 1) := by decide +kernel
theorem d_X12_laysLayers_18 : decode cX12_laysLayers 18 = .ok (.aload_n 0, 1) := by decide +kernel
theorem d_X12_laysLayers_19 : decode cX12_laysLayers 19 = .ok (.invokevirtual 233, 3) := by decide +kernel
theorem d_X12_laysLayers_22 : decode cX12_laysLayers 22 = .ok (.istore_n 2, 1) := by decide +kernel
theorem d_X12_laysLayers_23 : decode cX12_laysLayers 23 = .ok (.iload_n 2, 1) := by decide +kernel
theorem d_X12_laysLayers_24 : decode cX12_laysLayers 24 = .ok (.ifCond .eq 252, 3) := by decide +kernel
theorem d_X12_laysLayers_27 : decode cX12_laysLayers 27 = .ok (.aload_n 0, 1) := by decide +kernel
theorem d_X12_laysLayers_28 : decode cX12_laysLayers 28 = .ok (.iload_n 1, 1) := by decide +kernel
theorem d_X12_laysLayers_29 : decode cX12_laysLayers 29 = .ok (.iload_n 2, 1) := by decide +kernel
theorem d_X12_laysLayers_30 : decode cX12_laysLayers 30 = .ok (.invokevirtual 340, 3) := by decide +kernel
theorem d_X12_laysLayers_33 : decode cX12_laysLayers 33 = .ok (.iconst 0, 1) := by decide +kernel
theorem d_X12_laysLayers_34 : decode cX12_laysLayers 34 = .ok (.istore_n 3, 1) := by decide +kernel
theorem d_X12_laysLayers_35 : decode cX12_laysLayers 35 = .ok (.aload_n 0, 1) := by decide +kernel
theorem d_X12_laysLayers_36 : decode cX12_laysLayers 36 = .ok (.getfield 149, 3) := by decide +kernel
theorem d_X12_laysLayers_39 : decode cX12_laysLayers 39 = .ok (.iconst 2, 1) := by decide +kernel
theorem d_X12_laysLayers_40 : decode cX12_laysLayers 40 = .ok (.iaload, 1) := by decide +kernel
theorem d_X12_laysLayers_41 : decode cX12_laysLayers 41 = .ok (.iload_n 3, 1) := by decide +kernel
theorem d_X12_laysLayers_42 : decode cX12_laysLayers 42 = .ok (.invokestatic 206, 3) := by decide +kernel
theorem d_X12_laysLayers_45 : decode cX12_laysLayers 45 = .ok (.ifCond .ne 9, 3) := by decide +kernel
theorem d_X12_laysLayers_48 : decode cX12_laysLayers 48 = .ok (.iinc 3 1, 3) := by decide +kernel
theorem d_X12_laysLayers_51 : decode cX12_laysLayers 51 = .ok (.goto (-16), 3) := by decide +kernel
theorem d_X12_laysLayers_54 : decode cX12_laysLayers 54 = .ok (.iconst 0, 1) := by decide +kernel
theorem d_X12_laysLayers_55 : decode cX12_laysLayers 55 = .ok (.istore 4, 2) := by decide +kernel
theorem d_X12_laysLayers_57 : decode cX12_laysLayers 57 = .ok (.iconst 0, 1) := by decide +kernel
theorem d_X12_laysLayers_58 : decode cX12_laysLayers 58 = .ok (.istore 5, 2) := by decide +kernel
theorem d_X12_laysLayers_60 : decode cX12_laysLayers 60 = .ok (.iload 5, 2) := by decide +kernel
theorem d_X12_laysLayers_62 : decode cX12_laysLayers 62 = .ok (.aload_n 0, 1) := by decide +kernel
theorem d_X12_laysLayers_63 : decode cX12_laysLayers 63 = .ok (.invokevirtual 191, 3) := by decide +kernel
theorem d_X12_laysLayers_66 : decode cX12_laysLayers 66 = .ok (.if_icmp .ge 40, 3) := by decide +kernel
theorem d_X12_laysLayers_69 : decode cX12_laysLayers 69 = .ok (.aload_n 0, 1) := by decide +kernel
theorem d_X12_laysLayers_70 : decode cX12_laysLayers 70 = .ok (.getfield 149, 3) := by decide +kernel
theorem d_X12_laysLayers_73 : decode cX12_laysLayers 73 = .ok (.iconst 2, 1) := by decide +kernel
theorem d_X12_laysLayers_74 : decode cX12_laysLayers 74 = .ok (.iaload, 1) := by decide +kernel
theorem d_X12_laysLayers_75 : decode cX12_laysLayers 75 = .ok (.aload_n 0, 1) := by decide +kernel
theorem d_X12_laysLayers_76 : decode cX12_laysLayers 76 = .ok (.getfield 152, 3) := by decide +kernel
theorem d_X12_laysLayers_79 : decode cX12_laysLayers 79 = .ok (.iload 5, 2) := by decide +kernel
theorem d_X12_laysLayers_81 : decode cX12_laysLayers 81 = .ok (.iaload, 1) := by decide +kernel
theorem d_X12_laysLayers_82 : decode cX12_laysLayers 82 = .ok (.invokestatic 206, 3) := by decide +kernel
theorem d_X12_laysLayers_85 : decode cX12_laysLayers 85 = .ok (.ifCond .ne 6, 3) := by decide +kernel
theorem d_X12_laysLayers_88 : decode cX12_laysLayers 88 = .ok (.goto 12, 3) := by decide +kernel
theorem d_X12_laysLayers_91 : decode cX12_laysLayers 91 = .ok (.iload 4, 2) := by decide +kernel
theorem d_X12_laysLayers_93 : decode cX12_laysLayers 93 = .ok (.iconst 1, 1) := by decide +kernel
theorem d_X12_laysLayers_94 : decode cX12_laysLayers 94 = .ok (.iload 5, 2) := by decide +kernel
theorem d_X12_laysLayers_96 : decode cX12_laysLayers 96 = .ok (.ishl, 1) := by decide +kernel
theorem d_X12_laysLayers_97 : decode cX12_laysLayers 97 = .ok (.ior, 1) := by decide +kernel
theorem d_X12_laysLayers_98 : decode cX12_laysLayers 98 = .ok (.istore 4, 2) := by decide +kernel
theorem d_X12_laysLayers_100 : decode cX12_laysLayers 100 = .ok (.iinc 5 1, 3) := by decide +kernel
theorem d_X12_laysLayers_103 : decode cX12_laysLayers 103 = .ok (.goto (-43), 3) := by decide +kernel
theorem d_X12_laysLayers_106 : decode cX12_laysLayers 106 = .ok (.iconst 0, 1) := by decide +kernel
theorem d_X12_laysLayers_107 : decode cX12_laysLayers 107 = .ok (.istore 5, 2) := by decide +kernel
theorem d_X12_laysLayers_109 : decode cX12_laysLayers 109 = .ok (.iload 5, 2) := by decide +kernel
theorem d_X12_laysLayers_111 : decode cX12_laysLayers 111 = .ok (.aload_n 0, 1) := by decide +kernel
theorem d_X12_laysLayers_112 : decode cX12_laysLayers 112 = .ok (.invokevirtual 191, 3) := by decide +kernel
theorem d_X12_laysLayers_115 : decode cX12_laysLayers 115 = .ok (.if_icmp .ge 27, 3) := by decide +kernel
theorem d_X12_laysLayers_118 : decode cX12_laysLayers 118 = .ok (.iload 4, 2) := by decide +kernel
theorem d_X12_laysLayers_120 : decode cX12_laysLayers 120 = .ok (.iload 5, 2) := by decide +kernel
theorem d_X12_laysLayers_122 : decode cX12_laysLayers 122 = .ok (.invokestatic 206, 3) := by decide +kernel
theorem d_X12_laysLayers_125 : decode cX12_laysLayers 125 = .ok (.ifCond .eq 11, 3) := by decide +kernel
theorem d_X12_laysLayers_128 : decode cX12_laysLayers 128 = .ok (.aload_n 0, 1) := by decide +kernel
theorem d_X12_laysLayers_129 : decode cX12_laysLayers 129 = .ok (.getfield 152, 3) := by decide +kernel
theorem d_X12_laysLayers_132 : decode cX12_laysLayers 132 = .ok (.iload 5, 2) := by decide +kernel
theorem d_X12_laysLayers_134 : decode cX12_laysLayers 134 = .ok (.iload_n 3, 1) := by decide +kernel
theorem d_X12_laysLayers_135 : decode cX12_laysLayers 135 = .ok (.iastore, 1) := by decide +kernel
theorem d_X12_laysLayers_136 : decode cX12_laysLayers 136 = .ok (.iinc 5 1, 3) := by decide +kernel
theorem d_X12_laysLayers_139 : decode cX12_laysLayers 139 = .ok (.goto (-30), 3) := by decide +kernel
theorem d_X12_laysLayers_142 : decode cX12_laysLayers 142 = .ok (.aload_n 0, 1) := by decide +kernel
theorem d_X12_laysLayers_143 : decode cX12_laysLayers 143 = .ok (.getfield 158, 3) := by decide +kernel
theorem d_X12_laysLayers_146 : decode cX12_laysLayers 146 = .ok (.iconst 3, 1) := by decide +kernel
theorem d_X12_laysLayers_147 : decode cX12_laysLayers 147 = .ok (.aload_n 0, 1) := by decide +kernel
theorem d_X12_laysLayers_148 : decode cX12_laysLayers 148 = .ok (.getfield 366, 3) := by decide +kernel
theorem d_X12_laysLayers_151 : decode cX12_laysLayers 151 = .ok (.imul, 1) := by decide +kernel
theorem d_X12_laysLayers_152 : decode cX12_laysLayers 152 = .ok (.aload_n 0, 1) := by decide +kernel
theorem d_X12_laysLayers_153 : decode cX12_laysLayers 153 = .ok (.getfield 149, 3) := by decide +kernel
theorem d_X12_laysLayers_156 : decode cX12_laysLayers 156 = .ok (.iconst 0, 1) := by decide +kernel
theorem d_X12_laysLayers_157 : decode cX12_laysLayers 157 = .ok (.iaload, 1) := by decide +kernel
theorem d_X12_laysLayers_158 : decode cX12_laysLayers 158 = .ok (.iastore, 1) := by decide +kernel
theorem d_X12_laysLayers_159 : decode cX12_laysLayers 159 = .ok (.aload_n 0, 1) := by decide +kernel
theorem d_X12_laysLayers_160 : decode cX12_laysLayers 160 = .ok (.getfield 158, 3) := by decide +kernel
theorem d_X12_laysLayers_163 : decode cX12_laysLayers 163 = .ok (.iconst 3, 1) := by decide +kernel
theorem d_X12_laysLayers_164 : decode cX12_laysLayers 164 = .ok (.aload_n 0, 1) := by decide +kernel
theorem d_X12_laysLayers_165 : decode cX12_laysLayers 165 = .ok (.getfield 366, 3) := by decide +kernel
theorem d_X12_laysLayers_168 : decode cX12_laysLayers 168 = .ok (.imul, 1) := by decide +kernel
theorem d_X12_laysLayers_169 : decode cX12_laysLayers 169 = .ok (.iconst 1, 1) := by decide +kernel
theorem d_X12_laysLayers_170 : decode cX12_laysLayers 170 = .ok (.iadd, 1) := by decide +kernel
theorem d_X12_laysLayers_171 : decode cX12_laysLayers 171 = .ok (.aload_n 0, 1) := by decide +kernel
theorem d_X12_laysLayers_172 : decode cX12_laysLayers 172 = .ok (.getfield 149, 3) := by decide +kernel
theorem d_X12_laysLayers_175 : decode cX12_laysLayers 175 = .ok (.iconst 1, 1) := by decide +kernel
theorem d_X12_laysLayers_176 : decode cX12_laysLayers 176 = .ok (.iaload, 1) := by decide +kernel
theorem d_X12_laysLayers_177 : decode cX12_laysLayers 177 = .ok (.iastore, 1) := by decide +kernel
theorem d_X12_laysLayers_178 : decode cX12_laysLayers 178 = .ok (.aload_n 0, 1) := by decide +kernel
theorem d_X12_laysLayers_179 : decode cX12_laysLayers 179 = .ok (.getfield 158, 3) := by decide +kernel
theorem d_X12_laysLayers_182 : decode cX12_laysLayers 182 = .ok (.iconst 3, 1) := by decide +kernel
theorem d_X12_laysLayers_183 : decode cX12_laysLayers 183 = .ok (.aload_n 0, 1) := by decide +kernel
theorem d_X12_laysLayers_184 : decode cX12_laysLayers 184 = .ok (.getfield 366, 3) := by decide +kernel
theorem d_X12_laysLayers_187 : decode cX12_laysLayers 187 = .ok (.imul, 1) := by decide +kernel
theorem d_X12_laysLayers_188 : decode cX12_laysLayers 188 = .ok (.iconst 2, 1) := by decide +kernel
theorem d_X12_laysLayers_189 : decode cX12_laysLayers 189 = .ok (.iadd, 1) := by decide +kernel
theorem d_X12_laysLayers_190 : decode cX12_laysLayers 190 = .ok (.iload 4, 2) := by decide +kernel
theorem d_X12_laysLayers_192 : decode cX12_laysLayers 192 = .ok (.iastore, 1) := by decide +kernel
theorem d_X12_laysLayers_193 : decode cX12_laysLayers 193 = .ok (.aload_n 0, 1) := by decide +kernel
theorem d_X12_laysLayers_194 : decode cX12_laysLayers 194 = .ok (.dup, 1) := by decide +kernel
theorem d_X12_laysLayers_195 : decode cX12_laysLayers 195 = .ok (.getfield 366, 3) := by decide +kernel
theorem d_X12_laysLayers_198 : decode cX12_laysLayers 198 = .ok (.iconst 1, 1) := by decide +kernel
theorem d_X12_laysLayers_199 : decode cX12_laysLayers 199 = .ok (.iadd, 1) := by decide +kernel
theorem d_X12_laysLayers_200 : decode cX12_laysLayers 200 = .ok (.putfield 366, 3) := by decide +kernel
theorem d_X12_laysLayers_203 : decode cX12_laysLayers 203 = .ok (.iload_n 1, 1) := by decide +kernel
theorem d_X12_laysLayers_204 : decode cX12_laysLayers 204 = .ok (.iload 4, 2) := by decide +kernel
theorem d_X12_laysLayers_206 : decode cX12_laysLayers 206 = .ok (.iconst (-1), 1) := by decide +kernel
theorem d_X12_laysLayers_207 : decode cX12_laysLayers 207 = .ok (.ixor, 1) := by decide +kernel
theorem d_X12_laysLayers_208 : decode cX12_laysLayers 208 = .ok (.iand, 1) := by decide +kernel
theorem d_X12_laysLayers_209 : decode cX12_laysLayers 209 = .ok (.iconst 1, 1) := by decide +kernel
theorem d_X12_laysLayers_210 : decode cX12_laysLayers 210 = .ok (.iload_n 3, 1) := by decide +kernel
theorem d_X12_laysLayers_211 : decode cX12_laysLayers 211 = .ok (.ishl, 1) := by decide +kernel
theorem d_X12_laysLayers_212 : decode cX12_laysLayers 212 = .ok (.ior, 1) := by decide +kernel
theorem d_X12_laysLayers_213 : decode cX12_laysLayers 213 = .ok (.istore_n 1, 1) := by decide +kernel
theorem d_X12_laysLayers_214 : decode cX12_laysLayers 214 = .ok (.iconst 0, 1) := by decide +kernel
theorem d_X12_laysLayers_215 : decode cX12_laysLayers 215 = .ok (.istore 5, 2) := by decide +kernel
theorem d_X12_laysLayers_217 : decode cX12_laysLayers 217 = .ok (.iload 5, 2) := by decide +kernel
theorem d_X12_laysLayers_219 : decode cX12_laysLayers 219 = .ok (.aload_n 0, 1) := by decide +kernel
theorem d_X12_laysLayers_220 : decode cX12_laysLayers 220 = .ok (.invokevirtual 194, 3) := by decide +kernel
theorem d_X12_laysLayers_223 : decode cX12_laysLayers 223 = .ok (.if_icmp .ge 50, 3) := by decide +kernel
theorem d_X12_laysLayers_226 : decode cX12_laysLayers 226 = .ok (.aload_n 0, 1) := by decide +kernel
theorem d_X12_laysLayers_227 : decode cX12_laysLayers 227 = .ok (.getfield 152, 3) := by decide +kernel
theorem d_X12_laysLayers_230 : decode cX12_laysLayers 230 = .ok (.aload_n 0, 1) := by decide +kernel
theorem d_X12_laysLayers_231 : decode cX12_laysLayers 231 = .ok (.getfield 99, 3) := by decide +kernel
theorem d_X12_laysLayers_234 : decode cX12_laysLayers 234 = .ok (.iconst 3, 1) := by decide +kernel
theorem d_X12_laysLayers_235 : decode cX12_laysLayers 235 = .ok (.iload 5, 2) := by decide +kernel
theorem d_X12_laysLayers_237 : decode cX12_laysLayers 237 = .ok (.iadd, 1) := by decide +kernel
theorem d_X12_laysLayers_238 : decode cX12_laysLayers 238 = .ok (.iaload, 1) := by decide +kernel
theorem d_X12_laysLayers_239 : decode cX12_laysLayers 239 = .ok (.iaload, 1) := by decide +kernel
theorem d_X12_laysLayers_240 : decode cX12_laysLayers 240 = .ok (.aload_n 0, 1) := by decide +kernel
theorem d_X12_laysLayers_241 : decode cX12_laysLayers 241 = .ok (.getfield 152, 3) := by decide +kernel
theorem d_X12_laysLayers_244 : decode cX12_laysLayers 244 = .ok (.aload_n 0, 1) := by decide +kernel
theorem d_X12_laysLayers_245 : decode cX12_laysLayers 245 = .ok (.getfield 99, 3) := by decide +kernel
theorem d_X12_laysLayers_248 : decode cX12_laysLayers 248 = .ok (.bipush 27, 2) := by decide +kernel
theorem d_X12_laysLayers_250 : decode cX12_laysLayers 250 = .ok (.iload 5, 2) := by decide +kernel
theorem d_X12_laysLayers_252 : decode cX12_laysLayers 252 = .ok (.iadd, 1) := by decide +kernel
theorem d_X12_laysLayers_253 : decode cX12_laysLayers 253 = .ok (.iaload, 1) := by decide +kernel
theorem d_X12_laysLayers_254 : decode cX12_laysLayers 254 = .ok (.iaload, 1) := by decide +kernel
theorem d_X12_laysLayers_255 : decode cX12_laysLayers 255 = .ok (.if_icmp .ne 12, 3) := by decide +kernel
theorem d_X12_laysLayers_258 : decode cX12_laysLayers 258 = .ok (.iload_n 2, 1) := by decide +kernel
theorem d_X12_laysLayers_259 : decode cX12_laysLayers 259 = .ok (.iconst 1, 1) := by decide +kernel
theorem d_X12_laysLayers_260 : decode cX12_laysLayers 260 = .ok (.iload 5, 2) := by decide +kernel
theorem d_X12_laysLayers_262 : decode cX12_laysLayers 262 = .ok (.ishl, 1) := by decide +kernel
theorem d_X12_laysLayers_263 : decode cX12_laysLayers 263 = .ok (.iconst (-1), 1) := by decide +kernel
theorem d_X12_laysLayers_264 : decode cX12_laysLayers 264 = .ok (.ixor, 1) := by decide +kernel
theorem d_X12_laysLayers_265 : decode cX12_laysLayers 265 = .ok (.iand, 1) := by decide +kernel
theorem d_X12_laysLayers_266 : decode cX12_laysLayers 266 = .ok (.istore_n 2, 1) := by decide +kernel
theorem d_X12_laysLayers_267 : decode cX12_laysLayers 267 = .ok (.iinc 5 1, 3) := by decide +kernel
theorem d_X12_laysLayers_270 : decode cX12_laysLayers 270 = .ok (.goto (-53), 3) := by decide +kernel
theorem d_X12_laysLayers_273 : decode cX12_laysLayers 273 = .ok (.goto (-250), 3) := by decide +kernel
theorem d_X12_laysLayers_276 : decode cX12_laysLayers 276 = .ok (.return_, 1) := by decide +kernel
theorem d_X12_layers_0 : decode cX12_layers 0 = .ok (.aload_n 0, 1) := by decide +kernel
theorem d_X12_layers_1 : decode cX12_layers 1 = .ok (.iconst 0, 1) := by decide +kernel
theorem d_X12_layers_2 : decode cX12_layers 2 = .ok (.putfield 1, 3) := by decide +kernel
theorem d_X12_layers_5 : decode cX12_layers 5 = .ok (.aload_n 0, 1) := by decide +kernel
theorem d_X12_layers_6 : decode cX12_layers 6 = .ok (.invokevirtual 369, 3) := by decide +kernel
theorem d_X12_layers_9 : decode cX12_layers 9 = .ok (.aload_n 0, 1) := by decide +kernel
theorem d_X12_layers_10 : decode cX12_layers 10 = .ok (.getfield 366, 3) := by decide +kernel
theorem d_X12_layers_13 : decode cX12_layers 13 = .ok (.ireturn, 1) := by decide +kernel
theorem d_X12_layerAt_0 : decode cX12_layerAt 0 = .ok (.aload_n 0, 1) := by decide +kernel
theorem d_X12_layerAt_1 : decode cX12_layerAt 1 = .ok (.iconst 0, 1) := by decide +kernel
theorem d_X12_layerAt_2 : decode cX12_layerAt 2 = .ok (.putfield 1, 3) := by decide +kernel
theorem d_X12_layerAt_5 : decode cX12_layerAt 5 = .ok (.aload_n 0, 1) := by decide +kernel
theorem d_X12_layerAt_6 : decode cX12_layerAt 6 = .ok (.invokevirtual 369, 3) := by decide +kernel
theorem d_X12_layerAt_9 : decode cX12_layerAt 9 = .ok (.iload_n 1, 1) := by decide +kernel
theorem d_X12_layerAt_10 : decode cX12_layerAt 10 = .ok (.iconst 0, 1) := by decide +kernel
theorem d_X12_layerAt_11 : decode cX12_layerAt 11 = .ok (.aload_n 0, 1) := by decide +kernel
theorem d_X12_layerAt_12 : decode cX12_layerAt 12 = .ok (.getfield 366, 3) := by decide +kernel
theorem d_X12_layerAt_15 : decode cX12_layerAt 15 = .ok (.iconst 1, 1) := by decide +kernel
theorem d_X12_layerAt_16 : decode cX12_layerAt 16 = .ok (.isub, 1) := by decide +kernel
theorem d_X12_layerAt_17 : decode cX12_layerAt 17 = .ok (.invokestatic 83, 3) := by decide +kernel
theorem d_X12_layerAt_20 : decode cX12_layerAt 20 = .ok (.ifCond .eq 12, 3) := by decide +kernel
theorem d_X12_layerAt_23 : decode cX12_layerAt 23 = .ok (.iload_n 2, 1) := by decide +kernel
theorem d_X12_layerAt_24 : decode cX12_layerAt 24 = .ok (.iconst 0, 1) := by decide +kernel
theorem d_X12_layerAt_25 : decode cX12_layerAt 25 = .ok (.iconst 2, 1) := by decide +kernel
theorem d_X12_layerAt_26 : decode cX12_layerAt 26 = .ok (.invokestatic 83, 3) := by decide +kernel
theorem d_X12_layerAt_29 : decode cX12_layerAt 29 = .ok (.ifCond .ne 5, 3) := by decide +kernel
theorem d_X12_layerAt_32 : decode cX12_layerAt 32 = .ok (.iconst (-1), 1) := by decide +kernel
theorem d_X12_layerAt_33 : decode cX12_layerAt 33 = .ok (.ireturn, 1) := by decide +kernel
theorem d_X12_layerAt_34 : decode cX12_layerAt 34 = .ok (.iload_n 2, 1) := by decide +kernel
theorem d_X12_layerAt_35 : decode cX12_layerAt 35 = .ok (.iconst 2, 1) := by decide +kernel
theorem d_X12_layerAt_36 : decode cX12_layerAt 36 = .ok (.if_icmp .ne 16, 3) := by decide +kernel
theorem d_X12_layerAt_39 : decode cX12_layerAt 39 = .ok (.aload_n 0, 1) := by decide +kernel
theorem d_X12_layerAt_40 : decode cX12_layerAt 40 = .ok (.getfield 158, 3) := by decide +kernel
theorem d_X12_layerAt_43 : decode cX12_layerAt 43 = .ok (.iconst 3, 1) := by decide +kernel
theorem d_X12_layerAt_44 : decode cX12_layerAt 44 = .ok (.iload_n 1, 1) := by decide +kernel
theorem d_X12_layerAt_45 : decode cX12_layerAt 45 = .ok (.imul, 1) := by decide +kernel
theorem d_X12_layerAt_46 : decode cX12_layerAt 46 = .ok (.iconst 2, 1) := by decide +kernel
theorem d_X12_layerAt_47 : decode cX12_layerAt 47 = .ok (.iadd, 1) := by decide +kernel
theorem d_X12_layerAt_48 : decode cX12_layerAt 48 = .ok (.iaload, 1) := by decide +kernel
theorem d_X12_layerAt_49 : decode cX12_layerAt 49 = .ok (.goto 25, 3) := by decide +kernel
theorem d_X12_layerAt_52 : decode cX12_layerAt 52 = .ok (.aload_n 0, 1) := by decide +kernel
theorem d_X12_layerAt_53 : decode cX12_layerAt 53 = .ok (.getfield 158, 3) := by decide +kernel
theorem d_X12_layerAt_56 : decode cX12_layerAt 56 = .ok (.iconst 3, 1) := by decide +kernel
theorem d_X12_layerAt_57 : decode cX12_layerAt 57 = .ok (.iload_n 1, 1) := by decide +kernel
theorem d_X12_layerAt_58 : decode cX12_layerAt 58 = .ok (.imul, 1) := by decide +kernel
theorem d_X12_layerAt_59 : decode cX12_layerAt 59 = .ok (.iaload, 1) := by decide +kernel
theorem d_X12_layerAt_60 : decode cX12_layerAt 60 = .ok (.aload_n 0, 1) := by decide +kernel
theorem d_X12_layerAt_61 : decode cX12_layerAt 61 = .ok (.getfield 158, 3) := by decide +kernel
theorem d_X12_layerAt_64 : decode cX12_layerAt 64 = .ok (.iconst 3, 1) := by decide +kernel
theorem d_X12_layerAt_65 : decode cX12_layerAt 65 = .ok (.iload_n 1, 1) := by decide +kernel
theorem d_X12_layerAt_66 : decode cX12_layerAt 66 = .ok (.imul, 1) := by decide +kernel
theorem d_X12_layerAt_67 : decode cX12_layerAt 67 = .ok (.iconst 1, 1) := by decide +kernel
theorem d_X12_layerAt_68 : decode cX12_layerAt 68 = .ok (.iadd, 1) := by decide +kernel
theorem d_X12_layerAt_69 : decode cX12_layerAt 69 = .ok (.iaload, 1) := by decide +kernel
theorem d_X12_layerAt_70 : decode cX12_layerAt 70 = .ok (.iload_n 2, 1) := by decide +kernel
theorem d_X12_layerAt_71 : decode cX12_layerAt 71 = .ok (.invokestatic 343, 3) := by decide +kernel
theorem d_X12_layerAt_74 : decode cX12_layerAt 74 = .ok (.ireturn, 1) := by decide +kernel
theorem d_X12_lightest_0 : decode cX12_lightest 0 = .ok (.iconst (-1), 1) := by decide +kernel
theorem d_X12_lightest_1 : decode cX12_lightest 1 = .ok (.istore_n 2, 1) := by decide +kernel
theorem d_X12_lightest_2 : decode cX12_lightest 2 = .ok (.iconst 0, 1) := by decide +kernel
theorem d_X12_lightest_3 : decode cX12_lightest 3 = .ok (.istore_n 3, 1) := by decide +kernel
theorem d_X12_lightest_4 : decode cX12_lightest 4 = .ok (.iload_n 3, 1) := by decide +kernel
theorem d_X12_lightest_5 : decode cX12_lightest 5 = .ok (.aload_n 0, 1) := by decide +kernel
theorem d_X12_lightest_6 : decode cX12_lightest 6 = .ok (.invokevirtual 194, 3) := by decide +kernel
theorem d_X12_lightest_9 : decode cX12_lightest 9 = .ok (.if_icmp .ge 45, 3) := by decide +kernel
theorem d_X12_lightest_12 : decode cX12_lightest 12 = .ok (.iload_n 1, 1) := by decide +kernel
theorem d_X12_lightest_13 : decode cX12_lightest 13 = .ok (.iload_n 3, 1) := by decide +kernel
theorem d_X12_lightest_14 : decode cX12_lightest 14 = .ok (.invokestatic 206, 3) := by decide +kernel
theorem d_X12_lightest_17 : decode cX12_lightest 17 = .ok (.ifCond .eq 31, 3) := by decide +kernel
theorem d_X12_lightest_20 : decode cX12_lightest 20 = .ok (.iload_n 2, 1) := by decide +kernel
theorem d_X12_lightest_21 : decode cX12_lightest 21 = .ok (.iconst (-1), 1) := by decide +kernel
theorem d_X12_lightest_22 : decode cX12_lightest 22 = .ok (.if_icmp .eq 24, 3) := by decide +kernel
theorem d_X12_lightest_25 : decode cX12_lightest 25 = .ok (.aload_n 0, 1) := by decide +kernel
theorem d_X12_lightest_26 : decode cX12_lightest 26 = .ok (.getfield 99, 3) := by decide +kernel
theorem d_X12_lightest_29 : decode cX12_lightest 29 = .ok (.bipush 51, 2) := by decide +kernel
theorem d_X12_lightest_31 : decode cX12_lightest 31 = .ok (.iload_n 3, 1) := by decide +kernel
theorem d_X12_lightest_32 : decode cX12_lightest 32 = .ok (.iadd, 1) := by decide +kernel
theorem d_X12_lightest_33 : decode cX12_lightest 33 = .ok (.iaload, 1) := by decide +kernel
theorem d_X12_lightest_34 : decode cX12_lightest 34 = .ok (.aload_n 0, 1) := by decide +kernel
theorem d_X12_lightest_35 : decode cX12_lightest 35 = .ok (.getfield 99, 3) := by decide +kernel
theorem d_X12_lightest_38 : decode cX12_lightest 38 = .ok (.bipush 51, 2) := by decide +kernel
theorem d_X12_lightest_40 : decode cX12_lightest 40 = .ok (.iload_n 2, 1) := by decide +kernel
theorem d_X12_lightest_41 : decode cX12_lightest 41 = .ok (.iadd, 1) := by decide +kernel
theorem d_X12_lightest_42 : decode cX12_lightest 42 = .ok (.iaload, 1) := by decide +kernel
theorem d_X12_lightest_43 : decode cX12_lightest 43 = .ok (.if_icmp .ge 5, 3) := by decide +kernel
theorem d_X12_lightest_46 : decode cX12_lightest 46 = .ok (.iload_n 3, 1) := by decide +kernel
theorem d_X12_lightest_47 : decode cX12_lightest 47 = .ok (.istore_n 2, 1) := by decide +kernel
theorem d_X12_lightest_48 : decode cX12_lightest 48 = .ok (.iinc 3 1, 3) := by decide +kernel
theorem d_X12_lightest_51 : decode cX12_lightest 51 = .ok (.goto (-47), 3) := by decide +kernel
theorem d_X12_lightest_54 : decode cX12_lightest 54 = .ok (.iload_n 2, 1) := by decide +kernel
theorem d_X12_lightest_55 : decode cX12_lightest 55 = .ok (.ireturn, 1) := by decide +kernel
theorem d_X12_light_0 : decode cX12_light 0 = .ok (.aload_n 0, 1) := by decide +kernel
theorem d_X12_light_1 : decode cX12_light 1 = .ok (.iconst 0, 1) := by decide +kernel
theorem d_X12_light_2 : decode cX12_light 2 = .ok (.putfield 1, 3) := by decide +kernel
theorem d_X12_light_5 : decode cX12_light 5 = .ok (.iload_n 1, 1) := by decide +kernel
theorem d_X12_light_6 : decode cX12_light 6 = .ok (.invokestatic 328, 3) := by decide +kernel
theorem d_X12_light_9 : decode cX12_light 9 = .ok (.ifCond .eq 12, 3) := by decide +kernel
theorem d_X12_light_12 : decode cX12_light 12 = .ok (.iload_n 2, 1) := by decide +kernel
theorem d_X12_light_13 : decode cX12_light 13 = .ok (.iconst 0, 1) := by decide +kernel
theorem d_X12_light_14 : decode cX12_light 14 = .ok (.iconst 1, 1) := by decide +kernel
theorem d_X12_light_15 : decode cX12_light 15 = .ok (.invokestatic 83, 3) := by decide +kernel
theorem d_X12_light_18 : decode cX12_light 18 = .ok (.ifCond .ne 5, 3) := by decide +kernel
theorem d_X12_light_21 : decode cX12_light 21 = .ok (.iconst (-1), 1) := by decide +kernel
theorem d_X12_light_22 : decode cX12_light 22 = .ok (.ireturn, 1) := by decide +kernel
theorem d_X12_light_23 : decode cX12_light 23 = .ok (.iconst 0, 1) := by decide +kernel
theorem d_X12_light_24 : decode cX12_light 24 = .ok (.istore_n 3, 1) := by decide +kernel
theorem d_X12_light_25 : decode cX12_light 25 = .ok (.iconst 0, 1) := by decide +kernel
theorem d_X12_light_26 : decode cX12_light 26 = .ok (.istore 4, 2) := by decide +kernel
theorem d_X12_light_28 : decode cX12_light 28 = .ok (.aload_n 0, 1) := by decide +kernel
theorem d_X12_light_29 : decode cX12_light 29 = .ok (.invokevirtual 233, 3) := by decide +kernel
theorem d_X12_light_32 : decode cX12_light 32 = .ok (.istore 5, 2) := by decide +kernel
theorem d_X12_light_34 : decode cX12_light 34 = .ok (.iload 5, 2) := by decide +kernel
theorem d_X12_light_36 : decode cX12_light 36 = .ok (.ifCond .eq 61, 3) := by decide +kernel
theorem d_X12_light_39 : decode cX12_light 39 = .ok (.aload_n 0, 1) := by decide +kernel
theorem d_X12_light_40 : decode cX12_light 40 = .ok (.iload 5, 2) := by decide +kernel
theorem d_X12_light_42 : decode cX12_light 42 = .ok (.invokevirtual 372, 3) := by decide +kernel
theorem d_X12_light_45 : decode cX12_light 45 = .ok (.istore 6, 2) := by decide +kernel
theorem d_X12_light_47 : decode cX12_light 47 = .ok (.iload 5, 2) := by decide +kernel
theorem d_X12_light_49 : decode cX12_light 49 = .ok (.iconst 1, 1) := by decide +kernel
theorem d_X12_light_50 : decode cX12_light 50 = .ok (.iload 6, 2) := by decide +kernel
theorem d_X12_light_52 : decode cX12_light 52 = .ok (.ishl, 1) := by decide +kernel
theorem d_X12_light_53 : decode cX12_light 53 = .ok (.iconst (-1), 1) := by decide +kernel
theorem d_X12_light_54 : decode cX12_light 54 = .ok (.ixor, 1) := by decide +kernel
theorem d_X12_light_55 : decode cX12_light 55 = .ok (.iand, 1) := by decide +kernel
theorem d_X12_light_56 : decode cX12_light 56 = .ok (.istore 5, 2) := by decide +kernel
theorem d_X12_light_58 : decode cX12_light 58 = .ok (.aload_n 0, 1) := by decide +kernel
theorem d_X12_light_59 : decode cX12_light 59 = .ok (.iload 6, 2) := by decide +kernel
theorem d_X12_light_61 : decode cX12_light 61 = .ok (.iload_n 3, 1) := by decide +kernel
theorem d_X12_light_62 : decode cX12_light 62 = .ok (.iload_n 1, 1) := by decide +kernel
theorem d_X12_light_63 : decode cX12_light 63 = .ok (.invokevirtual 325, 3) := by decide +kernel
theorem d_X12_light_66 : decode cX12_light 66 = .ok (.ifCond .ne 6, 3) := by decide +kernel
theorem d_X12_light_69 : decode cX12_light 69 = .ok (.goto (-35), 3) := by decide +kernel
theorem d_X12_light_72 : decode cX12_light 72 = .ok (.iload_n 3, 1) := by decide +kernel
theorem d_X12_light_73 : decode cX12_light 73 = .ok (.iconst 1, 1) := by decide +kernel
theorem d_X12_light_74 : decode cX12_light 74 = .ok (.iload 6, 2) := by decide +kernel
