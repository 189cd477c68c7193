-- needs: 08.links0
theorem d_X3_cutLine_15 : decode cX3_cutLine 15 = .ok (.getfield 67, 3) := by decide +kernel
theorem d_X3_cutLine_18 : decode cX3_cutLine 18 = .ok (.iload_n 1, 1) := by decide +kernel
theorem d_X3_cutLine_19 : decode cX3_cutLine 19 = .ok (.iaload, 1) := by decide +kernel
theorem d_X3_cutLine_20 : decode cX3_cutLine 20 = .ok (.ifCond .lt 16, 3) := by decide +kernel
theorem d_X3_cutLine_23 : decode cX3_cutLine 23 = .ok (.aload_n 0, 1) := by decide +kernel
theorem d_X3_cutLine_24 : decode cX3_cutLine 24 = .ok (.getfield 18, 3) := by decide +kernel
theorem d_X3_cutLine_27 : decode cX3_cutLine 27 = .ok (.getfield 67, 3) := by decide +kernel
theorem d_X3_cutLine_30 : decode cX3_cutLine 30 = .ok (.iload_n 1, 1) := by decide +kernel
theorem d_X3_cutLine_31 : decode cX3_cutLine 31 = .ok (.iaload, 1) := by decide +kernel
theorem d_X3_cutLine_32 : decode cX3_cutLine 32 = .ok (.iconst 1, 1) := by decide +kernel
theorem d_X3_cutLine_33 : decode cX3_cutLine 33 = .ok (.if_icmp .le 5, 3) := by decide +kernel
theorem d_X3_cutLine_36 : decode cX3_cutLine 36 = .ok (.iconst 0, 1) := by decide +kernel
theorem d_X3_cutLine_37 : decode cX3_cutLine 37 = .ok (.ireturn, 1) := by decide +kernel
theorem d_X3_cutLine_38 : decode cX3_cutLine 38 = .ok (.aload_n 0, 1) := by decide +kernel
theorem d_X3_cutLine_39 : decode cX3_cutLine 39 = .ok (.getfield 42, 3) := by decide +kernel
theorem d_X3_cutLine_42 : decode cX3_cutLine 42 = .ok (.aload_n 0, 1) := by decide +kernel
theorem d_X3_cutLine_43 : decode cX3_cutLine 43 = .ok (.getfield 45, 3) := by decide +kernel
theorem d_X3_cutLine_46 : decode cX3_cutLine 46 = .ok (.ior, 1) := by decide +kernel
theorem d_X3_cutLine_47 : decode cX3_cutLine 47 = .ok (.iload_n 1, 1) := by decide +kernel
theorem d_X3_cutLine_48 : decode cX3_cutLine 48 = .ok (.ishr, 1) := by decide +kernel
theorem d_X3_cutLine_49 : decode cX3_cutLine 49 = .ok (.iconst 1, 1) := by decide +kernel
theorem d_X3_cutLine_50 : decode cX3_cutLine 50 = .ok (.iand, 1) := by decide +kernel
theorem d_X3_cutLine_51 : decode cX3_cutLine 51 = .ok (.ifCond .eq 5, 3) := by decide +kernel
theorem d_X3_cutLine_54 : decode cX3_cutLine 54 = .ok (.iconst 0, 1) := by decide +kernel
theorem d_X3_cutLine_55 : decode cX3_cutLine 55 = .ok (.ireturn, 1) := by decide +kernel
theorem d_X3_cutLine_56 : decode cX3_cutLine 56 = .ok (.aload_n 0, 1) := by decide +kernel
theorem d_X3_cutLine_57 : decode cX3_cutLine 57 = .ok (.getfield 18, 3) := by decide +kernel
theorem d_X3_cutLine_60 : decode cX3_cutLine 60 = .ok (.getfield 67, 3) := by decide +kernel
theorem d_X3_cutLine_63 : decode cX3_cutLine 63 = .ok (.iload_n 1, 1) := by decide +kernel
theorem d_X3_cutLine_64 : decode cX3_cutLine 64 = .ok (.iaload, 1) := by decide +kernel
theorem d_X3_cutLine_65 : decode cX3_cutLine 65 = .ok (.istore_n 2, 1) := by decide +kernel
theorem d_X3_cutLine_66 : decode cX3_cutLine 66 = .ok (.aload_n 0, 1) := by decide +kernel
theorem d_X3_cutLine_67 : decode cX3_cutLine 67 = .ok (.dup, 1) := by decide +kernel
theorem d_X3_cutLine_68 : decode cX3_cutLine 68 = .ok (.getfield 42, 3) := by decide +kernel
theorem d_X3_cutLine_71 : decode cX3_cutLine 71 = .ok (.iconst 1, 1) := by decide +kernel
theorem d_X3_cutLine_72 : decode cX3_cutLine 72 = .ok (.iload_n 1, 1) := by decide +kernel
theorem d_X3_cutLine_73 : decode cX3_cutLine 73 = .ok (.ishl, 1) := by decide +kernel
theorem d_X3_cutLine_74 : decode cX3_cutLine 74 = .ok (.ior, 1) := by decide +kernel
theorem d_X3_cutLine_75 : decode cX3_cutLine 75 = .ok (.putfield 42, 3) := by decide +kernel
theorem d_X3_cutLine_78 : decode cX3_cutLine 78 = .ok (.aload_n 0, 1) := by decide +kernel
theorem d_X3_cutLine_79 : decode cX3_cutLine 79 = .ok (.getfield 18, 3) := by decide +kernel
theorem d_X3_cutLine_82 : decode cX3_cutLine 82 = .ok (.aload_n 0, 1) := by decide +kernel
theorem d_X3_cutLine_83 : decode cX3_cutLine 83 = .ok (.getfield 18, 3) := by decide +kernel
theorem d_X3_cutLine_86 : decode cX3_cutLine 86 = .ok (.getfield 70, 3) := by decide +kernel
theorem d_X3_cutLine_89 : decode cX3_cutLine 89 = .ok (.iload_n 1, 1) := by decide +kernel
theorem d_X3_cutLine_90 : decode cX3_cutLine 90 = .ok (.iaload, 1) := by decide +kernel
theorem d_X3_cutLine_91 : decode cX3_cutLine 91 = .ok (.aload_n 0, 1) := by decide +kernel
theorem d_X3_cutLine_92 : decode cX3_cutLine 92 = .ok (.getfield 9, 3) := by decide +kernel
theorem d_X3_cutLine_95 : decode cX3_cutLine 95 = .ok (.iload_n 2, 1) := by decide +kernel
theorem d_X3_cutLine_96 : decode cX3_cutLine 96 = .ok (.iaload, 1) := by decide +kernel
theorem d_X3_cutLine_97 : decode cX3_cutLine 97 = .ok (.aload_n 0, 1) := by decide +kernel
theorem d_X3_cutLine_98 : decode cX3_cutLine 98 = .ok (.getfield 42, 3) := by decide +kernel
theorem d_X3_cutLine_101 : decode cX3_cutLine 101 = .ok (.iconst (-1), 1) := by decide +kernel
theorem d_X3_cutLine_102 : decode cX3_cutLine 102 = .ok (.ixor, 1) := by decide +kernel
theorem d_X3_cutLine_103 : decode cX3_cutLine 103 = .ok (.iand, 1) := by decide +kernel
theorem d_X3_cutLine_104 : decode cX3_cutLine 104 = .ok (.aload_n 0, 1) := by decide +kernel
theorem d_X3_cutLine_105 : decode cX3_cutLine 105 = .ok (.getfield 45, 3) := by decide +kernel
theorem d_X3_cutLine_108 : decode cX3_cutLine 108 = .ok (.ior, 1) := by decide +kernel
theorem d_X3_cutLine_109 : decode cX3_cutLine 109 = .ok (.invokevirtual 73, 3) := by decide +kernel
theorem d_X3_cutLine_112 : decode cX3_cutLine 112 = .ok (.istore_n 3, 1) := by decide +kernel
theorem d_X3_cutLine_113 : decode cX3_cutLine 113 = .ok (.aload_n 0, 1) := by decide +kernel
theorem d_X3_cutLine_114 : decode cX3_cutLine 114 = .ok (.aload_n 0, 1) := by decide +kernel
theorem d_X3_cutLine_115 : decode cX3_cutLine 115 = .ok (.getfield 9, 3) := by decide +kernel
theorem d_X3_cutLine_118 : decode cX3_cutLine 118 = .ok (.iconst 1, 1) := by decide +kernel
theorem d_X3_cutLine_119 : decode cX3_cutLine 119 = .ok (.iload_n 2, 1) := by decide +kernel
theorem d_X3_cutLine_120 : decode cX3_cutLine 120 = .ok (.isub, 1) := by decide +kernel
theorem d_X3_cutLine_121 : decode cX3_cutLine 121 = .ok (.iaload, 1) := by decide +kernel
theorem d_X3_cutLine_122 : decode cX3_cutLine 122 = .ok (.aload_n 0, 1) := by decide +kernel
theorem d_X3_cutLine_123 : decode cX3_cutLine 123 = .ok (.getfield 42, 3) := by decide +kernel
theorem d_X3_cutLine_126 : decode cX3_cutLine 126 = .ok (.iconst (-1), 1) := by decide +kernel
theorem d_X3_cutLine_127 : decode cX3_cutLine 127 = .ok (.ixor, 1) := by decide +kernel
theorem d_X3_cutLine_128 : decode cX3_cutLine 128 = .ok (.iand, 1) := by decide +kernel
theorem d_X3_cutLine_129 : decode cX3_cutLine 129 = .ok (.aload_n 0, 1) := by decide +kernel
theorem d_X3_cutLine_130 : decode cX3_cutLine 130 = .ok (.getfield 45, 3) := by decide +kernel
theorem d_X3_cutLine_133 : decode cX3_cutLine 133 = .ok (.iconst (-1), 1) := by decide +kernel
theorem d_X3_cutLine_134 : decode cX3_cutLine 134 = .ok (.ixor, 1) := by decide +kernel
theorem d_X3_cutLine_135 : decode cX3_cutLine 135 = .ok (.iand, 1) := by decide +kernel
theorem d_X3_cutLine_136 : decode cX3_cutLine 136 = .ok (.iload_n 3, 1) := by decide +kernel
theorem d_X3_cutLine_137 : decode cX3_cutLine 137 = .ok (.invokevirtual 77, 3) := by decide +kernel
theorem d_X3_cutLine_140 : decode cX3_cutLine 140 = .ok (.istore 4, 2) := by decide +kernel
theorem d_X3_cutLine_142 : decode cX3_cutLine 142 = .ok (.aload_n 0, 1) := by decide +kernel
theorem d_X3_cutLine_143 : decode cX3_cutLine 143 = .ok (.getfield 15, 3) := by decide +kernel
theorem d_X3_cutLine_146 : decode cX3_cutLine 146 = .ok (.aload_n 0, 1) := by decide +kernel
theorem d_X3_cutLine_147 : decode cX3_cutLine 147 = .ok (.getfield 48, 3) := by decide +kernel
theorem d_X3_cutLine_150 : decode cX3_cutLine 150 = .ok (.iload 4, 2) := by decide +kernel
theorem d_X3_cutLine_152 : decode cX3_cutLine 152 = .ok (.iastore, 1) := by decide +kernel
theorem d_X3_cutLine_153 : decode cX3_cutLine 153 = .ok (.aload_n 0, 1) := by decide +kernel
theorem d_X3_cutLine_154 : decode cX3_cutLine 154 = .ok (.dup, 1) := by decide +kernel
theorem d_X3_cutLine_155 : decode cX3_cutLine 155 = .ok (.getfield 48, 3) := by decide +kernel
theorem d_X3_cutLine_158 : decode cX3_cutLine 158 = .ok (.iconst 1, 1) := by decide +kernel
theorem d_X3_cutLine_159 : decode cX3_cutLine 159 = .ok (.iadd, 1) := by decide +kernel
theorem d_X3_cutLine_160 : decode cX3_cutLine 160 = .ok (.putfield 48, 3) := by decide +kernel
theorem d_X3_cutLine_163 : decode cX3_cutLine 163 = .ok (.iload 4, 2) := by decide +kernel
theorem d_X3_cutLine_165 : decode cX3_cutLine 165 = .ok (.iconst (-1), 1) := by decide +kernel
theorem d_X3_cutLine_166 : decode cX3_cutLine 166 = .ok (.if_icmp .eq 16, 3) := by decide +kernel
theorem d_X3_cutLine_169 : decode cX3_cutLine 169 = .ok (.aload_n 0, 1) := by decide +kernel
theorem d_X3_cutLine_170 : decode cX3_cutLine 170 = .ok (.dup, 1) := by decide +kernel
theorem d_X3_cutLine_171 : decode cX3_cutLine 171 = .ok (.getfield 45, 3) := by decide +kernel
theorem d_X3_cutLine_174 : decode cX3_cutLine 174 = .ok (.iconst 1, 1) := by decide +kernel
theorem d_X3_cutLine_175 : decode cX3_cutLine 175 = .ok (.iload 4, 2) := by decide +kernel
theorem d_X3_cutLine_177 : decode cX3_cutLine 177 = .ok (.ishl, 1) := by decide +kernel
theorem d_X3_cutLine_178 : decode cX3_cutLine 178 = .ok (.ior, 1) := by decide +kernel
theorem d_X3_cutLine_179 : decode cX3_cutLine 179 = .ok (.putfield 45, 3) := by decide +kernel
theorem d_X3_cutLine_182 : decode cX3_cutLine 182 = .ok (.iconst 1, 1) := by decide +kernel
theorem d_X3_cutLine_183 : decode cX3_cutLine 183 = .ok (.ireturn, 1) := by decide +kernel
theorem d_X3_run_0 : decode cX3_run 0 = .ok (.aload_n 0, 1) := by decide +kernel
theorem d_X3_run_1 : decode cX3_run 1 = .ok (.getfield 18, 3) := by decide +kernel
theorem d_X3_run_4 : decode cX3_run 4 = .ok (.getfield 26, 3) := by decide +kernel
theorem d_X3_run_7 : decode cX3_run 7 = .ok (.iconst 2, 1) := by decide +kernel
theorem d_X3_run_8 : decode cX3_run 8 = .ok (.if_icmp .lt 14, 3) := by decide +kernel
theorem d_X3_run_11 : decode cX3_run 11 = .ok (.aload_n 0, 1) := by decide +kernel
theorem d_X3_run_12 : decode cX3_run 12 = .ok (.getfield 18, 3) := by decide +kernel
theorem d_X3_run_15 : decode cX3_run 15 = .ok (.getfield 32, 3) := by decide +kernel
theorem d_X3_run_18 : decode cX3_run 18 = .ok (.iconst 2, 1) := by decide +kernel
theorem d_X3_run_19 : decode cX3_run 19 = .ok (.if_icmp .ge 5, 3) := by decide +kernel
theorem d_X3_run_22 : decode cX3_run 22 = .ok (.iconst (-1), 1) := by decide +kernel
theorem d_X3_run_23 : decode cX3_run 23 = .ok (.ireturn, 1) := by decide +kernel
theorem d_X3_run_24 : decode cX3_run 24 = .ok (.aload_n 0, 1) := by decide +kernel
theorem d_X3_run_25 : decode cX3_run 25 = .ok (.getfield 9, 3) := by decide +kernel
theorem d_X3_run_28 : decode cX3_run 28 = .ok (.iconst 0, 1) := by decide +kernel
theorem d_X3_run_29 : decode cX3_run 29 = .ok (.aload_n 0, 1) := by decide +kernel
theorem d_X3_run_30 : decode cX3_run 30 = .ok (.getfield 18, 3) := by decide +kernel
theorem d_X3_run_33 : decode cX3_run 33 = .ok (.iconst 0, 1) := by decide +kernel
theorem d_X3_run_34 : decode cX3_run 34 = .ok (.invokevirtual 35, 3) := by decide +kernel
theorem d_X3_run_37 : decode cX3_run 37 = .ok (.iastore, 1) := by decide +kernel
theorem d_X3_run_38 : decode cX3_run 38 = .ok (.aload_n 0, 1) := by decide +kernel
theorem d_X3_run_39 : decode cX3_run 39 = .ok (.getfield 9, 3) := by decide +kernel
theorem d_X3_run_42 : decode cX3_run 42 = .ok (.iconst 1, 1) := by decide +kernel
theorem d_X3_run_43 : decode cX3_run 43 = .ok (.aload_n 0, 1) := by decide +kernel
theorem d_X3_run_44 : decode cX3_run 44 = .ok (.getfield 18, 3) := by decide +kernel
theorem d_X3_run_47 : decode cX3_run 47 = .ok (.iconst 1, 1) := by decide +kernel
theorem d_X3_run_48 : decode cX3_run 48 = .ok (.invokevirtual 35, 3) := by decide +kernel
theorem d_X3_run_51 : decode cX3_run 51 = .ok (.iastore, 1) := by decide +kernel
theorem d_X3_run_52 : decode cX3_run 52 = .ok (.aload_n 0, 1) := by decide +kernel
theorem d_X3_run_53 : decode cX3_run 53 = .ok (.getfield 18, 3) := by decide +kernel
theorem d_X3_run_56 : decode cX3_run 56 = .ok (.aload_n 0, 1) := by decide +kernel
theorem d_X3_run_57 : decode cX3_run 57 = .ok (.getfield 9, 3) := by decide +kernel
theorem d_X3_run_60 : decode cX3_run 60 = .ok (.iconst 0, 1) := by decide +kernel
theorem d_X3_run_61 : decode cX3_run 61 = .ok (.iaload, 1) := by decide +kernel
theorem d_X3_run_62 : decode cX3_run 62 = .ok (.invokevirtual 39, 3) := by decide +kernel
theorem d_X3_run_65 : decode cX3_run 65 = .ok (.iconst 1, 1) := by decide +kernel
theorem d_X3_run_66 : decode cX3_run 66 = .ok (.if_icmp .ne 20, 3) := by decide +kernel
theorem d_X3_run_69 : decode cX3_run 69 = .ok (.aload_n 0, 1) := by decide +kernel
theorem d_X3_run_70 : decode cX3_run 70 = .ok (.getfield 18, 3) := by decide +kernel
theorem d_X3_run_73 : decode cX3_run 73 = .ok (.aload_n 0, 1) := by decide +kernel
theorem d_X3_run_74 : decode cX3_run 74 = .ok (.getfield 9, 3) := by decide +kernel
theorem d_X3_run_77 : decode cX3_run 77 = .ok (.iconst 1, 1) := by decide +kernel
theorem d_X3_run_78 : decode cX3_run 78 = .ok (.iaload, 1) := by decide +kernel
theorem d_X3_run_79 : decode cX3_run 79 = .ok (.invokevirtual 39, 3) := by decide +kernel
theorem d_X3_run_82 : decode cX3_run 82 = .ok (.iconst 1, 1) := by decide +kernel
theorem d_X3_run_83 : decode cX3_run 83 = .ok (.if_icmp .eq 5, 3) := by decide +kernel
theorem d_X3_run_86 : decode cX3_run 86 = .ok (.iconst (-1), 1) := by decide +kernel
theorem d_X3_run_87 : decode cX3_run 87 = .ok (.ireturn, 1) := by decide +kernel
theorem d_X3_run_88 : decode cX3_run 88 = .ok (.aload_n 0, 1) := by decide +kernel
theorem d_X3_run_89 : decode cX3_run 89 = .ok (.iconst 0, 1) := by decide +kernel
theorem d_X3_run_90 : decode cX3_run 90 = .ok (.putfield 42, 3) := by decide +kernel
theorem d_X3_run_93 : decode cX3_run 93 = .ok (.aload_n 0, 1) := by decide +kernel
theorem d_X3_run_94 : decode cX3_run 94 = .ok (.iconst 0, 1) := by decide +kernel
theorem d_X3_run_95 : decode cX3_run 95 = .ok (.putfield 45, 3) := by decide +kernel
theorem d_X3_run_98 : decode cX3_run 98 = .ok (.aload_n 0, 1) := by decide +kernel
theorem d_X3_run_99 : decode cX3_run 99 = .ok (.iconst 0, 1) := by decide +kernel
theorem d_X3_run_100 : decode cX3_run 100 = .ok (.putfield 48, 3) := by decide +kernel
theorem d_X3_run_103 : decode cX3_run 103 = .ok (.iconst 0, 1) := by decide +kernel
theorem d_X3_run_104 : decode cX3_run 104 = .ok (.istore_n 1, 1) := by decide +kernel
theorem d_X3_run_105 : decode cX3_run 105 = .ok (.iload_n 1, 1) := by decide +kernel
theorem d_X3_run_106 : decode cX3_run 106 = .ok (.aload_n 0, 1) := by decide +kernel
theorem d_X3_run_107 : decode cX3_run 107 = .ok (.getfield 22, 3) := by decide +kernel
theorem d_X3_run_110 : decode cX3_run 110 = .ok (.invokevirtual 51, 3) := by decide +kernel
theorem d_X3_run_113 : decode cX3_run 113 = .ok (.if_icmp .ge 36, 3) := by decide +kernel
theorem d_X3_run_116 : decode cX3_run 116 = .ok (.aload_n 0, 1) := by decide +kernel
theorem d_X3_run_117 : decode cX3_run 117 = .ok (.getfield 48, 3) := by decide +kernel
theorem d_X3_run_120 : decode cX3_run 120 = .ok (.bipush 24, 2) := by decide +kernel
theorem d_X3_run_122 : decode cX3_run 122 = .ok (.if_icmp .ge 27, 3) := by decide +kernel
theorem d_X3_run_125 : decode cX3_run 125 = .ok (.aload_n 0, 1) := by decide +kernel
theorem d_X3_run_126 : decode cX3_run 126 = .ok (.aload_n 0, 1) := by decide +kernel
theorem d_X3_run_127 : decode cX3_run 127 = .ok (.getfield 22, 3) := by decide +kernel
theorem d_X3_run_130 : decode cX3_run 130 = .ok (.iload_n 1, 1) := by decide +kernel
theorem d_X3_run_131 : decode cX3_run 131 = .ok (.invokevirtual 57, 3) := by decide +kernel
theorem d_X3_run_134 : decode cX3_run 134 = .ok (.invokevirtual 60, 3) := by decide +kernel
theorem d_X3_run_137 : decode cX3_run 137 = .ok (.ifCond .ne 6, 3) := by decide +kernel
theorem d_X3_run_140 : decode cX3_run 140 = .ok (.goto 9, 3) := by decide +kernel
theorem d_X3_run_143 : decode cX3_run 143 = .ok (.iinc 1 1, 3) := by decide +kernel
theorem d_X3_run_146 : decode cX3_run 146 = .ok (.goto (-41), 3) := by decide +kernel
theorem d_X3_run_149 : decode cX3_run 149 = .ok (.aload_n 0, 1) := by decide +kernel
theorem d_X3_run_150 : decode cX3_run 150 = .ok (.getfield 48, 3) := by decide +kernel
theorem d_X3_run_153 : decode cX3_run 153 = .ok (.ireturn, 1) := by decide +kernel
theorem d_X11_game_0 : decode cX11_game 0 = .ok (.aload_n 0, 1) := by decide +kernel
theorem d_X11_game_1 : decode cX11_game 1 = .ok (.getfield 90, 3) := by decide +kernel
theorem d_X11_game_4 : decode cX11_game 4 = .ok (.invokevirtual 253, 3) := by decide +kernel
theorem d_X11_game_7 : decode cX11_game 7 = .ok (.istore_n 1, 1) := by decide +kernel
theorem d_X11_game_8 : decode cX11_game 8 = .ok (.aload_n 0, 1) := by decide +kernel
theorem d_X11_game_9 : decode cX11_game 9 = .ok (.getfield 19, 3) := by decide +kernel
theorem d_X11_game_12 : decode cX11_game 12 = .ok (.iconst 0, 1) := by decide +kernel
theorem d_X11_game_13 : decode cX11_game 13 = .ok (.invokevirtual 110, 3) := by decide +kernel
theorem d_X11_game_16 : decode cX11_game 16 = .ok (.iload_n 1, 1) := by decide +kernel
theorem d_X11_game_17 : decode cX11_game 17 = .ok (.ireturn, 1) := by decide +kernel
theorem d_X3_toldAt_0 : decode cX3_toldAt 0 = .ok (.iload_n 1, 1) := by decide +kernel
theorem d_X3_toldAt_1 : decode cX3_toldAt 1 = .ok (.ifCond .lt 11, 3) := by decide +kernel
theorem d_X3_toldAt_4 : decode cX3_toldAt 4 = .ok (.iload_n 1, 1) := by decide +kernel
theorem d_X3_toldAt_5 : decode cX3_toldAt 5 = .ok (.aload_n 0, 1) := by decide +kernel
theorem d_X3_toldAt_6 : decode cX3_toldAt 6 = .ok (.getfield 48, 3) := by decide +kernel
theorem d_X3_toldAt_9 : decode cX3_toldAt 9 = .ok (.if_icmp .lt 7, 3) := by decide +kernel
theorem d_X3_toldAt_12 : decode cX3_toldAt 12 = .ok (.iconst (-1), 1) := by decide +kernel
theorem d_X3_toldAt_13 : decode cX3_toldAt 13 = .ok (.goto 9, 3) := by decide +kernel
theorem d_X3_toldAt_16 : decode cX3_toldAt 16 = .ok (.aload_n 0, 1) := by decide +kernel
theorem d_X3_toldAt_17 : decode cX3_toldAt 17 = .ok (.getfield 15, 3) := by decide +kernel
theorem d_X3_toldAt_20 : decode cX3_toldAt 20 = .ok (.iload_n 1, 1) := by decide +kernel
theorem d_X3_toldAt_21 : decode cX3_toldAt 21 = .ok (.iaload, 1) := by decide +kernel
theorem d_X3_toldAt_22 : decode cX3_toldAt 22 = .ok (.ireturn, 1) := by decide +kernel
theorem d_X11_keptAt_0 : decode cX11_keptAt 0 = .ok (.aload_n 0, 1) := by decide +kernel
theorem d_X11_keptAt_1 : decode cX11_keptAt 1 = .ok (.getfield 90, 3) := by decide +kernel
theorem d_X11_keptAt_4 : decode cX11_keptAt 4 = .ok (.iload_n 1, 1) := by decide +kernel
theorem d_X11_keptAt_5 : decode cX11_keptAt 5 = .ok (.invokevirtual 256, 3) := by decide +kernel
theorem d_X11_keptAt_8 : decode cX11_keptAt 8 = .ok (.ireturn, 1) := by decide +kernel
theorem d_X0_takeBack_0 : decode cX0_takeBack 0 = .ok (.aload_n 0, 1) := by decide +kernel
theorem d_X0_takeBack_1 : decode cX0_takeBack 1 = .ok (.getfield 28, 3) := by decide +kernel
theorem d_X0_takeBack_4 : decode cX0_takeBack 4 = .ok (.ifCond .ne 5, 3) := by decide +kernel
theorem d_X0_takeBack_7 : decode cX0_takeBack 7 = .ok (.iconst 0, 1) := by decide +kernel
theorem d_X0_takeBack_8 : decode cX0_takeBack 8 = .ok (.ireturn, 1) := by decide +kernel
theorem d_X0_takeBack_9 : decode cX0_takeBack 9 = .ok (.aload_n 0, 1) := by decide +kernel
theorem d_X0_takeBack_10 : decode cX0_takeBack 10 = .ok (.aload_n 0, 1) := by decide +kernel
theorem d_X0_takeBack_11 : decode cX0_takeBack 11 = .ok (.getfield 20, 3) := by decide +kernel
theorem d_X0_takeBack_14 : decode cX0_takeBack 14 = .ok (.ifCond .le 12, 3) := by decide +kernel
theorem d_X0_takeBack_17 : decode cX0_takeBack 17 = .ok (.aload_n 0, 1) := by decide +kernel
theorem d_X0_takeBack_18 : decode cX0_takeBack 18 = .ok (.getfield 20, 3) := by decide +kernel
theorem d_X0_takeBack_21 : decode cX0_takeBack 21 = .ok (.iconst 1, 1) := by decide +kernel
theorem d_X0_takeBack_22 : decode cX0_takeBack 22 = .ok (.isub, 1) := by decide +kernel
theorem d_X0_takeBack_23 : decode cX0_takeBack 23 = .ok (.goto 5, 3) := by decide +kernel
theorem d_X0_takeBack_26 : decode cX0_takeBack 26 = .ok (.bipush 8, 2) := by decide +kernel
theorem d_X0_takeBack_28 : decode cX0_takeBack 28 = .ok (.putfield 20, 3) := by decide +kernel
theorem d_X0_takeBack_31 : decode cX0_takeBack 31 = .ok (.aload_n 0, 1) := by decide +kernel
theorem d_X0_takeBack_32 : decode cX0_takeBack 32 = .ok (.dup, 1) := by decide +kernel
theorem d_X0_takeBack_33 : decode cX0_takeBack 33 = .ok (.getfield 28, 3) := by decide +kernel
theorem d_X0_takeBack_36 : decode cX0_takeBack 36 = .ok (.iconst 1, 1) := by decide +kernel
theorem d_X0_takeBack_37 : decode cX0_takeBack 37 = .ok (.isub, 1) := by decide +kernel
theorem d_X0_takeBack_38 : decode cX0_takeBack 38 = .ok (.putfield 28, 3) := by decide +kernel
theorem d_X0_takeBack_41 : decode cX0_takeBack 41 = .ok (.aload_n 0, 1) := by decide +kernel
theorem d_X0_takeBack_42 : decode cX0_takeBack 42 = .ok (.getfield 15, 3) := by decide +kernel
theorem d_X0_takeBack_45 : decode cX0_takeBack 45 = .ok (.aload_n 0, 1) := by decide +kernel
theorem d_X0_takeBack_46 : decode cX0_takeBack 46 = .ok (.getfield 11, 3) := by decide +kernel
theorem d_X0_takeBack_49 : decode cX0_takeBack 49 = .ok (.aload_n 0, 1) := by decide +kernel
theorem d_X0_takeBack_50 : decode cX0_takeBack 50 = .ok (.getfield 20, 3) := by decide +kernel
theorem d_X0_takeBack_53 : decode cX0_takeBack 53 = .ok (.aaload, 1) := by decide +kernel
theorem d_X0_takeBack_54 : decode cX0_takeBack 54 = .ok (.invokevirtual 24, 3) := by decide +kernel
theorem d_X0_takeBack_57 : decode cX0_takeBack 57 = .ok (.iconst 1, 1) := by decide +kernel
theorem d_X0_takeBack_58 : decode cX0_takeBack 58 = .ok (.ireturn, 1) := by decide +kernel
theorem d_X11_undo_0 : decode cX11_undo 0 = .ok (.aload_n 0, 1) := by decide +kernel
theorem d_X11_undo_1 : decode cX11_undo 1 = .ok (.getfield 37, 3) := by decide +kernel
theorem d_X11_undo_4 : decode cX11_undo 4 = .ok (.invokevirtual 258, 3) := by decide +kernel
theorem d_X11_undo_7 : decode cX11_undo 7 = .ok (.ifCond .eq 13, 3) := by decide +kernel
theorem d_X11_undo_10 : decode cX11_undo 10 = .ok (.aload_n 0, 1) := by decide +kernel
theorem d_X11_undo_11 : decode cX11_undo 11 = .ok (.getfield 37, 3) := by decide +kernel
theorem d_X11_undo_14 : decode cX11_undo 14 = .ok (.invokevirtual 201, 3) := by decide +kernel
theorem d_X11_undo_17 : decode cX11_undo 17 = .ok (.goto 4, 3) := by decide +kernel
theorem d_X11_undo_20 : decode cX11_undo 20 = .ok (.iconst (-1), 1) := by decide +kernel
theorem d_X11_undo_21 : decode cX11_undo 21 = .ok (.ireturn, 1) := by decide +kernel
theorem d_X5_allPoints_0 : decode cX5_allPoints 0 = .ok (.iconst 1, 1) := by decide +kernel
theorem d_X5_allPoints_1 : decode cX5_allPoints 1 = .ok (.aload_n 0, 1) := by decide +kernel
theorem d_X5_allPoints_2 : decode cX5_allPoints 2 = .ok (.getfield 34, 3) := by decide +kernel
theorem d_X5_allPoints_5 : decode cX5_allPoints 5 = .ok (.ishl, 1) := by decide +kernel
theorem d_X5_allPoints_6 : decode cX5_allPoints 6 = .ok (.iconst 1, 1) := by decide +kernel
theorem d_X5_allPoints_7 : decode cX5_allPoints 7 = .ok (.isub, 1) := by decide +kernel
theorem d_X5_allPoints_8 : decode cX5_allPoints 8 = .ok (.ireturn, 1) := by decide +kernel
theorem d_X8_takeNone_0 : decode cX8_takeNone 0 = .ok (.iconst 0, 1) := by decide +kernel
theorem d_X8_takeNone_1 : decode cX8_takeNone 1 = .ok (.istore_n 1, 1) := by decide +kernel
theorem d_X8_takeNone_2 : decode cX8_takeNone 2 = .ok (.iload_n 1, 1) := by decide +kernel
theorem d_X8_takeNone_3 : decode cX8_takeNone 3 = .ok (.aload_n 0, 1) := by decide +kernel
theorem d_X8_takeNone_4 : decode cX8_takeNone 4 = .ok (.getfield 21, 3) := by decide +kernel
theorem d_X8_takeNone_7 : decode cX8_takeNone 7 = .ok (.invokevirtual 57, 3) := by decide +kernel
theorem d_X8_takeNone_10 : decode cX8_takeNone 10 = .ok (.if_icmp .gt 16, 3) := by decide +kernel
theorem d_X8_takeNone_13 : decode cX8_takeNone 13 = .ok (.aload_n 0, 1) := by decide +kernel
theorem d_X8_takeNone_14 : decode cX8_takeNone 14 = .ok (.getfield 15, 3) := by decide +kernel
theorem d_X8_takeNone_17 : decode cX8_takeNone 17 = .ok (.iload_n 1, 1) := by decide +kernel
theorem d_X8_takeNone_18 : decode cX8_takeNone 18 = .ok (.iconst 0, 1) := by decide +kernel
theorem d_X8_takeNone_19 : decode cX8_takeNone 19 = .ok (.iastore, 1) := by decide +kernel
theorem d_X8_takeNone_20 : decode cX8_takeNone 20 = .ok (.iinc 1 1, 3) := by decide +kernel
theorem d_X8_takeNone_23 : decode cX8_takeNone 23 = .ok (.goto (-21), 3) := by decide +kernel
theorem d_X8_takeNone_26 : decode cX8_takeNone 26 = .ok (.return_, 1) := by decide +kernel
theorem d_X8_isFull_0 : decode cX8_isFull 0 = .ok (.aload_n 0, 1) := by decide +kernel
theorem d_X8_isFull_1 : decode cX8_isFull 1 = .ok (.getfield 15, 3) := by decide +kernel
theorem d_X8_isFull_4 : decode cX8_isFull 4 = .ok (.iload_n 1, 1) := by decide +kernel
theorem d_X8_isFull_5 : decode cX8_isFull 5 = .ok (.iaload, 1) := by decide +kernel
theorem d_X8_isFull_6 : decode cX8_isFull 6 = .ok (.iload_n 2, 1) := by decide +kernel
theorem d_X8_isFull_7 : decode cX8_isFull 7 = .ok (.iload_n 1, 1) := by decide +kernel
theorem d_X8_isFull_8 : decode cX8_isFull 8 = .ok (.invokestatic 65, 3) := by decide +kernel
theorem d_X8_isFull_11 : decode cX8_isFull 11 = .ok (.iconst 1, 1) := by decide +kernel
theorem d_X8_isFull_12 : decode cX8_isFull 12 = .ok (.isub, 1) := by decide +kernel
theorem d_X8_isFull_13 : decode cX8_isFull 13 = .ok (.imul, 1) := by decide +kernel
theorem d_X8_isFull_14 : decode cX8_isFull 14 = .ok (.if_icmp .lt 7, 3) := by decide +kernel
theorem d_X8_isFull_17 : decode cX8_isFull 17 = .ok (.iconst 1, 1) := by decide +kernel
theorem d_X8_isFull_18 : decode cX8_isFull 18 = .ok (.goto 4, 3) := by decide +kernel
theorem d_X8_isFull_21 : decode cX8_isFull 21 = .ok (.iconst 0, 1) := by decide +kernel
theorem d_X8_isFull_22 : decode cX8_isFull 22 = .ok (.ireturn, 1) := by decide +kernel
theorem d_X8_take_0 : decode cX8_take 0 = .ok (.aload_n 0, 1) := by decide +kernel
theorem d_X8_take_1 : decode cX8_take 1 = .ok (.getfield 21, 3) := by decide +kernel
theorem d_X8_take_4 : decode cX8_take 4 = .ok (.iload_n 1, 1) := by decide +kernel
theorem d_X8_take_5 : decode cX8_take 5 = .ok (.invokevirtual 85, 3) := by decide +kernel
theorem d_X8_take_8 : decode cX8_take 8 = .ok (.istore_n 3, 1) := by decide +kernel
theorem d_X8_take_9 : decode cX8_take 9 = .ok (.iconst 1, 1) := by decide +kernel
theorem d_X8_take_10 : decode cX8_take 10 = .ok (.aload_n 0, 1) := by decide +kernel
theorem d_X8_take_11 : decode cX8_take 11 = .ok (.getfield 21, 3) := by decide +kernel
theorem d_X8_take_14 : decode cX8_take 14 = .ok (.getfield 39, 3) := by decide +kernel
theorem d_X8_take_17 : decode cX8_take 17 = .ok (.ishl, 1) := by decide +kernel
theorem d_X8_take_18 : decode cX8_take 18 = .ok (.istore 4, 2) := by decide +kernel
theorem d_X8_take_20 : decode cX8_take 20 = .ok (.iload_n 3, 1) := by decide +kernel
theorem d_X8_take_21 : decode cX8_take 21 = .ok (.istore 5, 2) := by decide +kernel
theorem d_X8_take_23 : decode cX8_take 23 = .ok (.iload 5, 2) := by decide +kernel
theorem d_X8_take_25 : decode cX8_take 25 = .ok (.iload 4, 2) := by decide +kernel
theorem d_X8_take_27 : decode cX8_take 27 = .ok (.if_icmp .ge 26, 3) := by decide +kernel
theorem d_X8_take_30 : decode cX8_take 30 = .ok (.aload_n 0, 1) := by decide +kernel
theorem d_X8_take_31 : decode cX8_take 31 = .ok (.iload 5, 2) := by decide +kernel
theorem d_X8_take_33 : decode cX8_take 33 = .ok (.iload_n 2, 1) := by decide +kernel
theorem d_X8_take_34 : decode cX8_take 34 = .ok (.invokevirtual 88, 3) := by decide +kernel
theorem d_X8_take_37 : decode cX8_take 37 = .ok (.ifCond .eq 5, 3) := by decide +kernel
theorem d_X8_take_40 : decode cX8_take 40 = .ok (.iconst 0, 1) := by decide +kernel
theorem d_X8_take_41 : decode cX8_take 41 = .ok (.ireturn, 1) := by decide +kernel
theorem d_X8_take_42 : decode cX8_take 42 = .ok (.iload 5, 2) := by decide +kernel
theorem d_X8_take_44 : decode cX8_take 44 = .ok (.iconst 1, 1) := by decide +kernel
theorem d_X8_take_45 : decode cX8_take 45 = .ok (.iadd, 1) := by decide +kernel
theorem d_X8_take_46 : decode cX8_take 46 = .ok (.iload_n 3, 1) := by decide +kernel
theorem d_X8_take_47 : decode cX8_take 47 = .ok (.ior, 1) := by decide +kernel
theorem d_X8_take_48 : decode cX8_take 48 = .ok (.istore 5, 2) := by decide +kernel
theorem d_X8_take_50 : decode cX8_take 50 = .ok (.goto (-27), 3) := by decide +kernel
theorem d_X8_take_53 : decode cX8_take 53 = .ok (.iload_n 3, 1) := by decide +kernel
theorem d_X8_take_54 : decode cX8_take 54 = .ok (.istore 5, 2) := by decide +kernel
theorem d_X8_take_56 : decode cX8_take 56 = .ok (.iload 5, 2) := by decide +kernel
theorem d_X8_take_58 : decode cX8_take 58 = .ok (.iload 4, 2) := by decide +kernel
theorem d_X8_take_60 : decode cX8_take 60 = .ok (.if_icmp .ge 25, 3) := by decide +kernel
theorem d_X8_take_63 : decode cX8_take 63 = .ok (.aload_n 0, 1) := by decide +kernel
theorem d_X8_take_64 : decode cX8_take 64 = .ok (.getfield 15, 3) := by decide +kernel
theorem d_X8_take_67 : decode cX8_take 67 = .ok (.iload 5, 2) := by decide +kernel
theorem d_X8_take_69 : decode cX8_take 69 = .ok (.dup2, 1) := by decide +kernel
theorem d_X8_take_70 : decode cX8_take 70 = .ok (.iaload, 1) := by decide +kernel
theorem d_X8_take_71 : decode cX8_take 71 = .ok (.iconst 1, 1) := by decide +kernel
theorem d_X8_take_72 : decode cX8_take 72 = .ok (.iadd, 1) := by decide +kernel
theorem d_X8_take_73 : decode cX8_take 73 = .ok (.iastore, 1) := by decide +kernel
theorem d_X8_take_74 : decode cX8_take 74 = .ok (.iload 5, 2) := by decide +kernel
theorem d_X8_take_76 : decode cX8_take 76 = .ok (.iconst 1, 1) := by decide +kernel
theorem d_X8_take_77 : decode cX8_take 77 = .ok (.iadd, 1) := by decide +kernel
theorem d_X8_take_78 : decode cX8_take 78 = .ok (.iload_n 3, 1) := by decide +kernel
theorem d_X8_take_79 : decode cX8_take 79 = .ok (.ior, 1) := by decide +kernel
theorem d_X8_take_80 : decode cX8_take 80 = .ok (.istore 5, 2) := by decide +kernel
theorem d_X8_take_82 : decode cX8_take 82 = .ok (.goto (-26), 3) := by decide +kernel
theorem d_X8_take_85 : decode cX8_take 85 = .ok (.iconst 1, 1) := by decide +kernel
theorem d_X8_take_86 : decode cX8_take 86 = .ok (.ireturn, 1) := by decide +kernel
theorem d_X8_takeByNumber_0 : decode cX8_takeByNumber 0 = .ok (.aload_n 0, 1) := by decide +kernel
theorem d_X8_takeByNumber_1 : decode cX8_takeByNumber 1 = .ok (.invokevirtual 92, 3) := by decide +kernel
theorem d_X8_takeByNumber_4 : decode cX8_takeByNumber 4 = .ok (.iconst 0, 1) := by decide +kernel
theorem d_X8_takeByNumber_5 : decode cX8_takeByNumber 5 = .ok (.istore_n 2, 1) := by decide +kernel
theorem d_X8_takeByNumber_6 : decode cX8_takeByNumber 6 = .ok (.iconst 0, 1) := by decide +kernel
theorem d_X8_takeByNumber_7 : decode cX8_takeByNumber 7 = .ok (.istore_n 3, 1) := by decide +kernel
theorem d_X8_takeByNumber_8 : decode cX8_takeByNumber 8 = .ok (.iload_n 3, 1) := by decide +kernel
theorem d_X8_takeByNumber_9 : decode cX8_takeByNumber 9 = .ok (.aload_n 0, 1) := by decide +kernel
theorem d_X8_takeByNumber_10 : decode cX8_takeByNumber 10 = .ok (.getfield 21, 3) := by decide +kernel
theorem d_X8_takeByNumber_13 : decode cX8_takeByNumber 13 = .ok (.getfield 44, 3) := by decide +kernel
theorem d_X8_takeByNumber_16 : decode cX8_takeByNumber 16 = .ok (.if_icmp .ge 35, 3) := by decide +kernel
theorem d_X8_takeByNumber_19 : decode cX8_takeByNumber 19 = .ok (.aload_n 0, 1) := by decide +kernel
theorem d_X8_takeByNumber_20 : decode cX8_takeByNumber 20 = .ok (.getfield 21, 3) := by decide +kernel
theorem d_X8_takeByNumber_23 : decode cX8_takeByNumber 23 = .ok (.iload_n 3, 1) := by decide +kernel
theorem d_X8_takeByNumber_24 : decode cX8_takeByNumber 24 = .ok (.invokevirtual 53, 3) := by decide +kernel
theorem d_X8_takeByNumber_27 : decode cX8_takeByNumber 27 = .ok (.ifCond .eq 18, 3) := by decide +kernel
theorem d_X8_takeByNumber_30 : decode cX8_takeByNumber 30 = .ok (.aload_n 0, 1) := by decide +kernel
theorem d_X8_takeByNumber_31 : decode cX8_takeByNumber 31 = .ok (.iload_n 3, 1) := by decide +kernel
theorem d_X8_takeByNumber_32 : decode cX8_takeByNumber 32 = .ok (.iload_n 1, 1) := by decide +kernel
theorem d_X8_takeByNumber_33 : decode cX8_takeByNumber 33 = .ok (.invokevirtual 95, 3) := by decide +kernel
theorem d_X8_takeByNumber_36 : decode cX8_takeByNumber 36 = .ok (.ifCond .eq 9, 3) := by decide +kernel
theorem d_X8_takeByNumber_39 : decode cX8_takeByNumber 39 = .ok (.iload_n 2, 1) := by decide +kernel
theorem d_X8_takeByNumber_40 : decode cX8_takeByNumber 40 = .ok (.iconst 1, 1) := by decide +kernel
theorem d_X8_takeByNumber_41 : decode cX8_takeByNumber 41 = .ok (.iload_n 3, 1) := by decide +kernel
theorem d_X8_takeByNumber_42 : decode cX8_takeByNumber 42 = .ok (.ishl, 1) := by decide +kernel
theorem d_X8_takeByNumber_43 : decode cX8_takeByNumber 43 = .ok (.ior, 1) := by decide +kernel
theorem d_X8_takeByNumber_44 : decode cX8_takeByNumber 44 = .ok (.istore_n 2, 1) := by decide +kernel
theorem d_X8_takeByNumber_45 : decode cX8_takeByNumber 45 = .ok (.iinc 3 1, 3) := by decide +kernel
theorem d_X8_takeByNumber_48 : decode cX8_takeByNumber 48 = .ok (.goto (-40), 3) := by decide +kernel
theorem d_X8_takeByNumber_51 : decode cX8_takeByNumber 51 = .ok (.iload_n 2, 1) := by decide +kernel
theorem d_X8_takeByNumber_52 : decode cX8_takeByNumber 52 = .ok (.ireturn, 1) := by decide +kernel
theorem d_X11_most_0 : decode cX11_most 0 = .ok (.iload_n 1, 1) := by decide +kernel
theorem d_X11_most_1 : decode cX11_most 1 = .ok (.ifCond .lt 9, 3) := by decide +kernel
theorem d_X11_most_4 : decode cX11_most 4 = .ok (.iload_n 1, 1) := by decide +kernel
theorem d_X11_most_5 : decode cX11_most 5 = .ok (.bipush 24, 2) := by decide +kernel
theorem d_X11_most_7 : decode cX11_most 7 = .ok (.if_icmp .le 7, 3) := by decide +kernel
theorem d_X11_most_10 : decode cX11_most 10 = .ok (.iconst (-1), 1) := by decide +kernel
theorem d_X11_most_11 : decode cX11_most 11 = .ok (.goto 14, 3) := by decide +kernel
theorem d_X11_most_14 : decode cX11_most 14 = .ok (.aload_n 0, 1) := by decide +kernel
theorem d_X11_most_15 : decode cX11_most 15 = .ok (.getfield 51, 3) := by decide +kernel
theorem d_X11_most_18 : decode cX11_most 18 = .ok (.iload_n 1, 1) := by decide +kernel
theorem d_X11_most_19 : decode cX11_most 19 = .ok (.invokevirtual 261, 3) := by decide +kernel
theorem d_X11_most_22 : decode cX11_most 22 = .ok (.invokestatic 190, 3) := by decide +kernel
theorem d_X11_most_25 : decode cX11_most 25 = .ok (.ireturn, 1) := by decide +kernel
theorem d_X8_countInner__0 : decode cX8_countInner_ 0 = .ok (.iconst 1, 1) := by decide +kernel
theorem d_X8_countInner__1 : decode cX8_countInner_ 1 = .ok (.aload_n 0, 1) := by decide +kernel
theorem d_X8_countInner__2 : decode cX8_countInner_ 2 = .ok (.getfield 21, 3) := by decide +kernel
theorem d_X8_countInner__5 : decode cX8_countInner_ 5 = .ok (.getfield 39, 3) := by decide +kernel
theorem d_X8_countInner__8 : decode cX8_countInner_ 8 = .ok (.ishl, 1) := by decide +kernel
theorem d_X8_countInner__9 : decode cX8_countInner_ 9 = .ok (.istore_n 2, 1) := by decide +kernel
theorem d_X8_countInner__10 : decode cX8_countInner_ 10 = .ok (.iconst 0, 1) := by decide +kernel
theorem d_X8_countInner__11 : decode cX8_countInner_ 11 = .ok (.istore_n 3, 1) := by decide +kernel
theorem d_X8_countInner__12 : decode cX8_countInner_ 12 = .ok (.iload_n 3, 1) := by decide +kernel
theorem d_X8_countInner__13 : decode cX8_countInner_ 13 = .ok (.iload_n 2, 1) := by decide +kernel
theorem d_X8_countInner__14 : decode cX8_countInner_ 14 = .ok (.if_icmp .ge 16, 3) := by decide +kernel
theorem d_X8_countInner__17 : decode cX8_countInner_ 17 = .ok (.aload_n 0, 1) := by decide +kernel
theorem d_X8_countInner__18 : decode cX8_countInner_ 18 = .ok (.getfield 9, 3) := by decide +kernel
theorem d_X8_countInner__21 : decode cX8_countInner_ 21 = .ok (.iload_n 3, 1) := by decide +kernel
theorem d_X8_countInner__22 : decode cX8_countInner_ 22 = .ok (.iconst 0, 1) := by decide +kernel
theorem d_X8_countInner__23 : decode cX8_countInner_ 23 = .ok (.iastore, 1) := by decide +kernel
theorem d_X8_countInner__24 : decode cX8_countInner_ 24 = .ok (.iinc 3 1, 3) := by decide +kernel
theorem d_X8_countInner__27 : decode cX8_countInner_ 27 = .ok (.goto (-15), 3) := by decide +kernel
theorem d_X8_countInner__30 : decode cX8_countInner_ 30 = .ok (.iconst 0, 1) := by decide +kernel
theorem d_X8_countInner__31 : decode cX8_countInner_ 31 = .ok (.istore_n 3, 1) := by decide +kernel
theorem d_X8_countInner__32 : decode cX8_countInner_ 32 = .ok (.iload_n 3, 1) := by decide +kernel
theorem d_X8_countInner__33 : decode cX8_countInner_ 33 = .ok (.aload_n 0, 1) := by decide +kernel
theorem d_X8_countInner__34 : decode cX8_countInner_ 34 = .ok (.getfield 21, 3) := by decide +kernel
theorem d_X8_countInner__37 : decode cX8_countInner_ 37 = .ok (.getfield 44, 3) := by decide +kernel
theorem d_X8_countInner__40 : decode cX8_countInner_ 40 = .ok (.if_icmp .ge 71, 3) := by decide +kernel
theorem d_X8_countInner__43 : decode cX8_countInner_ 43 = .ok (.aload_n 1, 1) := by decide +kernel
theorem d_X8_countInner__44 : decode cX8_countInner_ 44 = .ok (.aload_n 0, 1) := by decide +kernel
theorem d_X8_countInner__45 : decode cX8_countInner_ 45 = .ok (.getfield 21, 3) := by decide +kernel
theorem d_X8_countInner__48 : decode cX8_countInner_ 48 = .ok (.getfield 47, 3) := by decide +kernel
theorem d_X8_countInner__51 : decode cX8_countInner_ 51 = .ok (.iload_n 3, 1) := by decide +kernel
theorem d_X8_countInner__52 : decode cX8_countInner_ 52 = .ok (.iaload, 1) := by decide +kernel
theorem d_X8_countInner__53 : decode cX8_countInner_ 53 = .ok (.iaload, 1) := by decide +kernel
theorem d_X8_countInner__54 : decode cX8_countInner_ 54 = .ok (.istore 4, 2) := by decide +kernel
theorem d_X8_countInner__56 : decode cX8_countInner_ 56 = .ok (.aload_n 1, 1) := by decide +kernel
theorem d_X8_countInner__57 : decode cX8_countInner_ 57 = .ok (.aload_n 0, 1) := by decide +kernel
theorem d_X8_countInner__58 : decode cX8_countInner_ 58 = .ok (.getfield 21, 3) := by decide +kernel
theorem d_X8_countInner__61 : decode cX8_countInner_ 61 = .ok (.getfield 50, 3) := by decide +kernel
theorem d_X8_countInner__64 : decode cX8_countInner_ 64 = .ok (.iload_n 3, 1) := by decide +kernel
theorem d_X8_countInner__65 : decode cX8_countInner_ 65 = .ok (.iaload, 1) := by decide +kernel
theorem d_X8_countInner__66 : decode cX8_countInner_ 66 = .ok (.iaload, 1) := by decide +kernel
theorem d_X8_countInner__67 : decode cX8_countInner_ 67 = .ok (.istore 5, 2) := by decide +kernel
theorem d_X8_countInner__69 : decode cX8_countInner_ 69 = .ok (.aload_n 0, 1) := by decide +kernel
theorem d_X8_countInner__70 : decode cX8_countInner_ 70 = .ok (.getfield 21, 3) := by decide +kernel
theorem d_X8_countInner__73 : decode cX8_countInner_ 73 = .ok (.iload_n 3, 1) := by decide +kernel
theorem d_X8_countInner__74 : decode cX8_countInner_ 74 = .ok (.invokevirtual 53, 3) := by decide +kernel
theorem d_X8_countInner__77 : decode cX8_countInner_ 77 = .ok (.ifCond .eq 28, 3) := by decide +kernel
theorem d_X8_countInner__80 : decode cX8_countInner_ 80 = .ok (.iload 4, 2) := by decide +kernel
theorem d_X8_countInner__82 : decode cX8_countInner_ 82 = .ok (.iload 5, 2) := by decide +kernel
theorem d_X8_countInner__84 : decode cX8_countInner_ 84 = .ok (.if_icmp .eq 21, 3) := by decide +kernel
theorem d_X8_countInner__87 : decode cX8_countInner_ 87 = .ok (.aload_n 0, 1) := by decide +kernel
theorem d_X8_countInner__88 : decode cX8_countInner_ 88 = .ok (.getfield 9, 3) := by decide +kernel
theorem d_X8_countInner__91 : decode cX8_countInner_ 91 = .ok (.iconst 1, 1) := by decide +kernel
theorem d_X8_countInner__92 : decode cX8_countInner_ 92 = .ok (.iload 4, 2) := by decide +kernel
theorem d_X8_countInner__94 : decode cX8_countInner_ 94 = .ok (.ishl, 1) := by decide +kernel
theorem d_X8_countInner__95 : decode cX8_countInner_ 95 = .ok (.iconst 1, 1) := by decide +kernel
theorem d_X8_countInner__96 : decode cX8_countInner_ 96 = .ok (.iload 5, 2) := by decide +kernel
theorem d_X8_countInner__98 : decode cX8_countInner_ 98 = .ok (.ishl, 1) := by decide +kernel
theorem d_X8_countInner__99 : decode cX8_countInner_ 99 = .ok (.ior, 1) := by decide +kernel
theorem d_X8_countInner__100 : decode cX8_countInner_ 100 = .ok (.dup2, 1) := by decide +kernel
theorem d_X8_countInner__101 : decode cX8_countInner_ 101 = .ok (.iaload, 1) := by decide +kernel
theorem d_X8_countInner__102 : decode cX8_countInner_ 102 = .ok (.iconst 1, 1) := by decide +kernel
theorem d_X8_countInner__103 : decode cX8_countInner_ 103 = .ok (.iadd, 1) := by decide +kernel
theorem d_X8_countInner__104 : decode cX8_countInner_ 104 = .ok (.iastore, 1) := by decide +kernel
theorem d_X8_countInner__105 : decode cX8_countInner_ 105 = .ok (.iinc 3 1, 3) := by decide +kernel
theorem d_X8_countInner__108 : decode cX8_countInner_ 108 = .ok (.goto (-76), 3) := by decide +kernel
theorem d_X8_countInner__111 : decode cX8_countInner_ 111 = .ok (.iconst 0, 1) := by decide +kernel
theorem d_X8_countInner__112 : decode cX8_countInner_ 112 = .ok (.istore_n 3, 1) := by decide +kernel
theorem d_X8_countInner__113 : decode cX8_countInner_ 113 = .ok (.iload_n 3, 1) := by decide +kernel
theorem d_X8_countInner__114 : decode cX8_countInner_ 114 = .ok (.aload_n 0, 1) := by decide +kernel
theorem d_X8_countInner__115 : decode cX8_countInner_ 115 = .ok (.getfield 21, 3) := by decide +kernel
theorem d_X8_countInner__118 : decode cX8_countInner_ 118 = .ok (.getfield 39, 3) := by decide +kernel
theorem d_X8_countInner__121 : decode cX8_countInner_ 121 = .ok (.if_icmp .ge 54, 3) := by decide +kernel
theorem d_X8_countInner__124 : decode cX8_countInner_ 124 = .ok (.iconst 0, 1) := by decide +kernel
theorem d_X8_countInner__125 : decode cX8_countInner_ 125 = .ok (.istore 4, 2) := by decide +kernel
theorem d_X8_countInner__127 : decode cX8_countInner_ 127 = .ok (.iload 4, 2) := by decide +kernel
theorem d_X8_countInner__129 : decode cX8_countInner_ 129 = .ok (.iload_n 2, 1) := by decide +kernel
theorem d_X8_countInner__130 : decode cX8_countInner_ 130 = .ok (.if_icmp .ge 39, 3) := by decide +kernel
theorem d_X8_countInner__133 : decode cX8_countInner_ 133 = .ok (.iload 4, 2) := by decide +kernel
theorem d_X8_countInner__135 : decode cX8_countInner_ 135 = .ok (.iload_n 3, 1) := by decide +kernel
theorem d_X8_countInner__136 : decode cX8_countInner_ 136 = .ok (.ishr, 1) := by decide +kernel
theorem d_X8_countInner__137 : decode cX8_countInner_ 137 = .ok (.iconst 1, 1) := by decide +kernel
theorem d_X8_countInner__138 : decode cX8_countInner_ 138 = .ok (.iand, 1) := by decide +kernel
theorem d_X8_countInner__139 : decode cX8_countInner_ 139 = .ok (.ifCond .eq 24, 3) := by decide +kernel
theorem d_X8_countInner__142 : decode cX8_countInner_ 142 = .ok (.aload_n 0, 1) := by decide +kernel
theorem d_X8_countInner__143 : decode cX8_countInner_ 143 = .ok (.getfield 9, 3) := by decide +kernel
theorem d_X8_countInner__146 : decode cX8_countInner_ 146 = .ok (.iload 4, 2) := by decide +kernel
theorem d_X8_countInner__148 : decode cX8_countInner_ 148 = .ok (.dup2, 1) := by decide +kernel
theorem d_X8_countInner__149 : decode cX8_countInner_ 149 = .ok (.iaload, 1) := by decide +kernel
theorem d_X8_countInner__150 : decode cX8_countInner_ 150 = .ok (.aload_n 0, 1) := by decide +kernel
theorem d_X8_countInner__151 : decode cX8_countInner_ 151 = .ok (.getfield 9, 3) := by decide +kernel
theorem d_X8_countInner__154 : decode cX8_countInner_ 154 = .ok (.iload 4, 2) := by decide +kernel
theorem d_X8_countInner__156 : decode cX8_countInner_ 156 = .ok (.iconst 1, 1) := by decide +kernel
theorem d_X8_countInner__157 : decode cX8_countInner_ 157 = .ok (.iload_n 3, 1) := by decide +kernel
theorem d_X8_countInner__158 : decode cX8_countInner_ 158 = .ok (.ishl, 1) := by decide +kernel
theorem d_X8_countInner__159 : decode cX8_countInner_ 159 = .ok (.ixor, 1) := by decide +kernel
theorem d_X8_countInner__160 : decode cX8_countInner_ 160 = .ok (.iaload, 1) := by decide +kernel
theorem d_X8_countInner__161 : decode cX8_countInner_ 161 = .ok (.iadd, 1) := by decide +kernel
theorem d_X8_countInner__162 : decode cX8_countInner_ 162 = .ok (.iastore, 1) := by decide +kernel
theorem d_X8_countInner__163 : decode cX8_countInner_ 163 = .ok (.iinc 4 1, 3) := by decide +kernel
theorem d_X8_countInner__166 : decode cX8_countInner_ 166 = .ok (.goto (-39), 3) := by decide +kernel
theorem d_X8_countInner__169 : decode cX8_countInner_ 169 = .ok (.iinc 3 1, 3) := by decide +kernel
theorem d_X8_countInner__172 : decode cX8_countInner_ 172 = .ok (.goto (-59), 3) := by decide +kernel
theorem d_X8_countInner__175 : decode cX8_countInner_ 175 = .ok (.return_, 1) := by decide +kernel
theorem d_X8_countInner_0 : decode cX8_countInner 0 = .ok (.aload_n 0, 1) := by decide +kernel
theorem d_X8_countInner_1 : decode cX8_countInner 1 = .ok (.aload_n 0, 1) := by decide +kernel
theorem d_X8_countInner_2 : decode cX8_countInner 2 = .ok (.getfield 18, 3) := by decide +kernel
theorem d_X8_countInner_5 : decode cX8_countInner 5 = .ok (.invokevirtual 35, 3) := by decide +kernel
theorem d_X8_countInner_8 : decode cX8_countInner 8 = .ok (.return_, 1) := by decide +kernel
theorem d_X8_greatestShare_0 : decode cX8_greatestShare 0 = .ok (.aload_n 0, 1) := by decide +kernel
theorem d_X8_greatestShare_1 : decode cX8_greatestShare 1 = .ok (.invokevirtual 71, 3) := by decide +kernel
theorem d_X8_greatestShare_4 : decode cX8_greatestShare 4 = .ok (.iconst 0, 1) := by decide +kernel
theorem d_X8_greatestShare_5 : decode cX8_greatestShare 5 = .ok (.istore_n 2, 1) := by decide +kernel
theorem d_X8_greatestShare_6 : decode cX8_greatestShare 6 = .ok (.iconst 3, 1) := by decide +kernel
theorem d_X8_greatestShare_7 : decode cX8_greatestShare 7 = .ok (.istore_n 3, 1) := by decide +kernel
theorem d_X8_greatestShare_8 : decode cX8_greatestShare 8 = .ok (.iload_n 3, 1) := by decide +kernel
theorem d_X8_greatestShare_9 : decode cX8_greatestShare 9 = .ok (.aload_n 0, 1) := by decide +kernel
theorem d_X8_greatestShare_10 : decode cX8_greatestShare 10 = .ok (.getfield 21, 3) := by decide +kernel
theorem d_X8_greatestShare_13 : decode cX8_greatestShare 13 = .ok (.invokevirtual 57, 3) := by decide +kernel
theorem d_X8_greatestShare_16 : decode cX8_greatestShare 16 = .ok (.if_icmp .gt 41, 3) := by decide +kernel
theorem d_X8_greatestShare_19 : decode cX8_greatestShare 19 = .ok (.iload_n 3, 1) := by decide +kernel
theorem d_X8_greatestShare_20 : decode cX8_greatestShare 20 = .ok (.invokestatic 65, 3) := by decide +kernel
theorem d_X8_greatestShare_23 : decode cX8_greatestShare 23 = .ok (.iload_n 1, 1) := by decide +kernel
theorem d_X8_greatestShare_24 : decode cX8_greatestShare 24 = .ok (.isub, 1) := by decide +kernel
theorem d_X8_greatestShare_25 : decode cX8_greatestShare 25 = .ok (.istore 4, 2) := by decide +kernel
theorem d_X8_greatestShare_27 : decode cX8_greatestShare 27 = .ok (.iload 4, 2) := by decide +kernel
theorem d_X8_greatestShare_29 : decode cX8_greatestShare 29 = .ok (.ifCond .le 22, 3) := by decide +kernel
theorem d_X8_greatestShare_32 : decode cX8_greatestShare 32 = .ok (.iload_n 2, 1) := by decide +kernel
theorem d_X8_greatestShare_33 : decode cX8_greatestShare 33 = .ok (.aload_n 0, 1) := by decide +kernel
theorem d_X8_greatestShare_34 : decode cX8_greatestShare 34 = .ok (.getfield 9, 3) := by decide +kernel
theorem d_X8_greatestShare_37 : decode cX8_greatestShare 37 = .ok (.iload_n 3, 1) := by decide +kernel
theorem d_X8_greatestShare_38 : decode cX8_greatestShare 38 = .ok (.iaload, 1) := by decide +kernel
theorem d_X8_greatestShare_39 : decode cX8_greatestShare 39 = .ok (.iload 4, 2) := by decide +kernel
theorem d_X8_greatestShare_41 : decode cX8_greatestShare 41 = .ok (.iadd, 1) := by decide +kernel
theorem d_X8_greatestShare_42 : decode cX8_greatestShare 42 = .ok (.iconst 1, 1) := by decide +kernel
theorem d_X8_greatestShare_43 : decode cX8_greatestShare 43 = .ok (.isub, 1) := by decide +kernel
theorem d_X8_greatestShare_44 : decode cX8_greatestShare 44 = .ok (.iload 4, 2) := by decide +kernel
theorem d_X8_greatestShare_46 : decode cX8_greatestShare 46 = .ok (.idiv, 1) := by decide +kernel
theorem d_X8_greatestShare_47 : decode cX8_greatestShare 47 = .ok (.invokestatic 76, 3) := by decide +kernel
theorem d_X8_greatestShare_50 : decode cX8_greatestShare 50 = .ok (.istore_n 2, 1) := by decide +kernel
theorem d_X8_greatestShare_51 : decode cX8_greatestShare 51 = .ok (.iinc 3 1, 3) := by decide +kernel
theorem d_X8_greatestShare_54 : decode cX8_greatestShare 54 = .ok (.goto (-46), 3) := by decide +kernel
theorem d_X8_greatestShare_57 : decode cX8_greatestShare 57 = .ok (.iload_n 2, 1) := by decide +kernel
theorem d_X8_greatestShare_58 : decode cX8_greatestShare 58 = .ok (.ireturn, 1) := by decide +kernel
theorem d_X8_fewestForests_0 : decode cX8_fewestForests 0 = .ok (.aload_n 0, 1) := by decide +kernel
theorem d_X8_fewestForests_1 : decode cX8_fewestForests 1 = .ok (.iconst 1, 1) := by decide +kernel
theorem d_X8_fewestForests_2 : decode cX8_fewestForests 2 = .ok (.invokevirtual 73, 3) := by decide +kernel
theorem d_X8_fewestForests_5 : decode cX8_fewestForests 5 = .ok (.ireturn, 1) := by decide +kernel
theorem d_X11_fewest_0 : decode cX11_fewest 0 = .ok (.aload_n 0, 1) := by decide +kernel
theorem d_X11_fewest_1 : decode cX11_fewest 1 = .ok (.getfield 51, 3) := by decide +kernel
theorem d_X11_fewest_4 : decode cX11_fewest 4 = .ok (.invokevirtual 264, 3) := by decide +kernel
theorem d_X11_fewest_7 : decode cX11_fewest 7 = .ok (.ireturn, 1) := by decide +kernel
theorem d_X8_mostTrees_0 : decode cX8_mostTrees 0 = .ok (.aload_n 0, 1) := by decide +kernel
theorem d_X8_mostTrees_1 : decode cX8_mostTrees 1 = .ok (.getfield 21, 3) := by decide +kernel
theorem d_X8_mostTrees_4 : decode cX8_mostTrees 4 = .ok (.getfield 39, 3) := by decide +kernel
theorem d_X8_mostTrees_7 : decode cX8_mostTrees 7 = .ok (.iconst 1, 1) := by decide +kernel
theorem d_X8_mostTrees_8 : decode cX8_mostTrees 8 = .ok (.isub, 1) := by decide +kernel
theorem d_X8_mostTrees_9 : decode cX8_mostTrees 9 = .ok (.istore_n 1, 1) := by decide +kernel
theorem d_X8_mostTrees_10 : decode cX8_mostTrees 10 = .ok (.iconst 0, 1) := by decide +kernel
theorem d_X8_mostTrees_11 : decode cX8_mostTrees 11 = .ok (.istore_n 2, 1) := by decide +kernel
theorem d_X8_mostTrees_12 : decode cX8_mostTrees 12 = .ok (.iload_n 2, 1) := by decide +kernel
theorem d_X8_mostTrees_13 : decode cX8_mostTrees 13 = .ok (.bipush 24, 2) := by decide +kernel
theorem d_X8_mostTrees_15 : decode cX8_mostTrees 15 = .ok (.if_icmp .ge 27, 3) := by decide +kernel
theorem d_X8_mostTrees_18 : decode cX8_mostTrees 18 = .ok (.aload_n 0, 1) := by decide +kernel
theorem d_X8_mostTrees_19 : decode cX8_mostTrees 19 = .ok (.iload_n 2, 1) := by decide +kernel
theorem d_X8_mostTrees_20 : decode cX8_mostTrees 20 = .ok (.iconst 1, 1) := by decide +kernel
theorem d_X8_mostTrees_21 : decode cX8_mostTrees 21 = .ok (.iadd, 1) := by decide +kernel
theorem d_X8_mostTrees_22 : decode cX8_mostTrees 22 = .ok (.invokevirtual 82, 3) := by decide +kernel
theorem d_X8_mostTrees_25 : decode cX8_mostTrees 25 = .ok (.invokestatic 65, 3) := by decide +kernel
theorem d_X8_mostTrees_28 : decode cX8_mostTrees 28 = .ok (.iload_n 2, 1) := by decide +kernel
theorem d_X8_mostTrees_29 : decode cX8_mostTrees 29 = .ok (.iconst 1, 1) := by decide +kernel
theorem d_X8_mostTrees_30 : decode cX8_mostTrees 30 = .ok (.iadd, 1) := by decide +kernel
theorem d_X8_mostTrees_31 : decode cX8_mostTrees 31 = .ok (.iload_n 1, 1) := by decide +kernel
theorem d_X8_mostTrees_32 : decode cX8_mostTrees 32 = .ok (.imul, 1) := by decide +kernel
theorem d_X8_mostTrees_33 : decode cX8_mostTrees 33 = .ok (.if_icmp .ne 9, 3) := by decide +kernel
theorem d_X8_mostTrees_36 : decode cX8_mostTrees 36 = .ok (.iinc 2 1, 3) := by decide +kernel
theorem d_X8_mostTrees_39 : decode cX8_mostTrees 39 = .ok (.goto (-27), 3) := by decide +kernel
theorem d_X8_mostTrees_42 : decode cX8_mostTrees 42 = .ok (.iload_n 2, 1) := by decide +kernel
theorem d_X8_mostTrees_43 : decode cX8_mostTrees 43 = .ok (.ireturn, 1) := by decide +kernel
theorem d_X11_trees_0 : decode cX11_trees 0 = .ok (.aload_n 0, 1) := by decide +kernel
theorem d_X11_trees_1 : decode cX11_trees 1 = .ok (.getfield 10, 3) := by decide +kernel
theorem d_X11_trees_4 : decode cX11_trees 4 = .ok (.getfield 184, 3) := by decide +kernel
theorem d_X11_trees_7 : decode cX11_trees 7 = .ok (.iconst 2, 1) := by decide +kernel
theorem d_X11_trees_8 : decode cX11_trees 8 = .ok (.if_icmp .ge 7, 3) := by decide +kernel
theorem d_X11_trees_11 : decode cX11_trees 11 = .ok (.iconst (-1), 1) := by decide +kernel
theorem d_X11_trees_12 : decode cX11_trees 12 = .ok (.goto 10, 3) := by decide +kernel
theorem d_X11_trees_15 : decode cX11_trees 15 = .ok (.aload_n 0, 1) := by decide +kernel
theorem d_X11_trees_16 : decode cX11_trees 16 = .ok (.getfield 51, 3) := by decide +kernel
theorem d_X11_trees_19 : decode cX11_trees 19 = .ok (.invokevirtual 267, 3) := by decide +kernel
theorem d_X11_trees_22 : decode cX11_trees 22 = .ok (.ireturn, 1) := by decide +kernel
theorem d_X8_findThick__0 : decode cX8_findThick_ 0 = .ok (.aload_n 0, 1) := by decide +kernel
theorem d_X8_findThick__1 : decode cX8_findThick_ 1 = .ok (.aload_n 1, 1) := by decide +kernel
theorem d_X8_findThick__2 : decode cX8_findThick_ 2 = .ok (.invokevirtual 35, 3) := by decide +kernel
theorem d_X8_findThick__5 : decode cX8_findThick_ 5 = .ok (.aload_n 0, 1) := by decide +kernel
theorem d_X8_findThick__6 : decode cX8_findThick_ 6 = .ok (.iconst 0, 1) := by decide +kernel
theorem d_X8_findThick__7 : decode cX8_findThick_ 7 = .ok (.putfield 25, 3) := by decide +kernel
theorem d_X8_findThick__10 : decode cX8_findThick_ 10 = .ok (.aload_n 0, 1) := by decide +kernel
theorem d_X8_findThick__11 : decode cX8_findThick_ 11 = .ok (.iconst (-1), 1) := by decide +kernel
theorem d_X8_findThick__12 : decode cX8_findThick_ 12 = .ok (.putfield 29, 3) := by decide +kernel
theorem d_X8_findThick__15 : decode cX8_findThick_ 15 = .ok (.aload_n 0, 1) := by decide +kernel
theorem d_X8_findThick__16 : decode cX8_findThick_ 16 = .ok (.iconst 1, 1) := by decide +kernel
theorem d_X8_findThick__17 : decode cX8_findThick_ 17 = .ok (.putfield 32, 3) := by decide +kernel
theorem d_X8_findThick__20 : decode cX8_findThick_ 20 = .ok (.iconst 3, 1) := by decide +kernel
theorem d_X8_findThick__21 : decode cX8_findThick_ 21 = .ok (.istore_n 3, 1) := by decide +kernel
theorem d_X8_findThick__22 : decode cX8_findThick_ 22 = .ok (.iload_n 3, 1) := by decide +kernel
theorem d_X8_findThick__23 : decode cX8_findThick_ 23 = .ok (.iload_n 2, 1) := by decide +kernel
theorem d_X8_findThick__24 : decode cX8_findThick_ 24 = .ok (.if_icmp .gt 95, 3) := by decide +kernel
theorem d_X8_findThick__27 : decode cX8_findThick_ 27 = .ok (.iload_n 3, 1) := by decide +kernel
theorem d_X8_findThick__28 : decode cX8_findThick_ 28 = .ok (.invokestatic 65, 3) := by decide +kernel
theorem d_X8_findThick__31 : decode cX8_findThick_ 31 = .ok (.iconst 1, 1) := by decide +kernel
theorem d_X8_findThick__32 : decode cX8_findThick_ 32 = .ok (.isub, 1) := by decide +kernel
theorem d_X8_findThick__33 : decode cX8_findThick_ 33 = .ok (.istore 4, 2) := by decide +kernel
theorem d_X8_findThick__35 : decode cX8_findThick_ 35 = .ok (.iload_n 3, 1) := by decide +kernel
theorem d_X8_findThick__36 : decode cX8_findThick_ 36 = .ok (.iload_n 2, 1) := by decide +kernel
theorem d_X8_findThick__37 : decode cX8_findThick_ 37 = .ok (.iconst (-1), 1) := by decide +kernel
theorem d_X8_findThick__38 : decode cX8_findThick_ 38 = .ok (.ixor, 1) := by decide +kernel
theorem d_X8_findThick__39 : decode cX8_findThick_ 39 = .ok (.iand, 1) := by decide +kernel
theorem d_X8_findThick__40 : decode cX8_findThick_ 40 = .ok (.ifCond .ne 73, 3) := by decide +kernel
theorem d_X8_findThick__43 : decode cX8_findThick_ 43 = .ok (.iload 4, 2) := by decide +kernel
theorem d_X8_findThick__45 : decode cX8_findThick_ 45 = .ok (.iconst 1, 1) := by decide +kernel
theorem d_X8_findThick__46 : decode cX8_findThick_ 46 = .ok (.if_icmp .ge 6, 3) := by decide +kernel
theorem d_X8_findThick__49 : decode cX8_findThick_ 49 = .ok (.goto 64, 3) := by decide +kernel
theorem d_X8_findThick__52 : decode cX8_findThick_ 52 = .ok (.aload_n 0, 1) := by decide +kernel
theorem d_X8_findThick__53 : decode cX8_findThick_ 53 = .ok (.getfield 9, 3) := by decide +kernel
theorem d_X8_findThick__56 : decode cX8_findThick_ 56 = .ok (.iload_n 3, 1) := by decide +kernel
theorem d_X8_findThick__57 : decode cX8_findThick_ 57 = .ok (.iaload, 1) := by decide +kernel
theorem d_X8_findThick__58 : decode cX8_findThick_ 58 = .ok (.aload_n 0, 1) := by decide +kernel
theorem d_X8_findThick__59 : decode cX8_findThick_ 59 = .ok (.getfield 32, 3) := by decide +kernel
theorem d_X8_findThick__62 : decode cX8_findThick_ 62 = .ok (.imul, 1) := by decide +kernel
theorem d_X8_findThick__63 : decode cX8_findThick_ 63 = .ok (.aload_n 0, 1) := by decide +kernel
theorem d_X8_findThick__64 : decode cX8_findThick_ 64 = .ok (.getfield 29, 3) := by decide +kernel
theorem d_X8_findThick__67 : decode cX8_findThick_ 67 = .ok (.iload 4, 2) := by decide +kernel
theorem d_X8_findThick__69 : decode cX8_findThick_ 69 = .ok (.imul, 1) := by decide +kernel
theorem d_X8_findThick__70 : decode cX8_findThick_ 70 = .ok (.isub, 1) := by decide +kernel
theorem d_X8_findThick__71 : decode cX8_findThick_ 71 = .ok (.istore 5, 2) := by decide +kernel
theorem d_X8_findThick__73 : decode cX8_findThick_ 73 = .ok (.iload 5, 2) := by decide +kernel
theorem d_X8_findThick__75 : decode cX8_findThick_ 75 = .ok (.ifCond .gt 17, 3) := by decide +kernel
theorem d_X8_findThick__78 : decode cX8_findThick_ 78 = .ok (.iload 5, 2) := by decide +kernel
theorem d_X8_findThick__80 : decode cX8_findThick_ 80 = .ok (.ifCond .ne 33, 3) := by decide +kernel
theorem d_X8_findThick__83 : decode cX8_findThick_ 83 = .ok (.iload 4, 2) := by decide +kernel
theorem d_X8_findThick__85 : decode cX8_findThick_ 85 = .ok (.aload_n 0, 1) := by decide +kernel
theorem d_X8_findThick__86 : decode cX8_findThick_ 86 = .ok (.getfield 32, 3) := by decide +kernel
theorem d_X8_findThick__89 : decode cX8_findThick_ 89 = .ok (.if_icmp .ge 24, 3) := by decide +kernel
theorem d_X8_findThick__92 : decode cX8_findThick_ 92 = .ok (.aload_n 0, 1) := by decide +kernel
theorem d_X8_findThick__93 : decode cX8_findThick_ 93 = .ok (.iload_n 3, 1) := by decide +kernel
theorem d_X8_findThick__94 : decode cX8_findThick_ 94 = .ok (.putfield 25, 3) := by decide +kernel
theorem d_X8_findThick__97 : decode cX8_findThick_ 97 = .ok (.aload_n 0, 1) := by decide +kernel
theorem d_X8_findThick__98 : decode cX8_findThick_ 98 = .ok (.aload_n 0, 1) := by decide +kernel
theorem d_X8_findThick__99 : decode cX8_findThick_ 99 = .ok (.getfield 9, 3) := by decide +kernel
theorem d_X8_findThick__102 : decode cX8_findThick_ 102 = .ok (.iload_n 3, 1) := by decide +kernel
theorem d_X8_findThick__103 : decode cX8_findThick_ 103 = .ok (.iaload, 1) := by decide +kernel
theorem d_X8_findThick__104 : decode cX8_findThick_ 104 = .ok (.putfield 29, 3) := by decide +kernel
theorem d_X8_findThick__107 : decode cX8_findThick_ 107 = .ok (.aload_n 0, 1) := by decide +kernel
theorem d_X8_findThick__108 : decode cX8_findThick_ 108 = .ok (.iload 4, 2) := by decide +kernel
theorem d_X8_findThick__110 : decode cX8_findThick_ 110 = .ok (.putfield 32, 3) := by decide +kernel
theorem d_X8_findThick__113 : decode cX8_findThick_ 113 = .ok (.iinc 3 1, 3) := by decide +kernel
theorem d_X8_findThick__116 : decode cX8_findThick_ 116 = .ok (.goto (-94), 3) := by decide +kernel
theorem d_X8_findThick__119 : decode cX8_findThick_ 119 = .ok (.return_, 1) := by decide +kernel
theorem d_X8_findThick_0 : decode cX8_findThick 0 = .ok (.aload_n 0, 1) := by decide +kernel
theorem d_X8_findThick_1 : decode cX8_findThick 1 = .ok (.aload_n 0, 1) := by decide +kernel
theorem d_X8_findThick_2 : decode cX8_findThick 2 = .ok (.getfield 18, 3) := by decide +kernel
theorem d_X8_findThick_5 : decode cX8_findThick 5 = .ok (.aload_n 0, 1) := by decide +kernel
theorem d_X8_findThick_6 : decode cX8_findThick 6 = .ok (.getfield 21, 3) := by decide +kernel
theorem d_X8_findThick_9 : decode cX8_findThick 9 = .ok (.invokevirtual 57, 3) := by decide +kernel
theorem d_X8_findThick_12 : decode cX8_findThick 12 = .ok (.invokevirtual 61, 3) := by decide +kernel
theorem d_X8_findThick_15 : decode cX8_findThick 15 = .ok (.return_, 1) := by decide +kernel
theorem d_X8_bestAbove_0 : decode cX8_bestAbove 0 = .ok (.aload_n 0, 1) := by decide +kernel
theorem d_X8_bestAbove_1 : decode cX8_bestAbove 1 = .ok (.getfield 29, 3) := by decide +kernel
theorem d_X8_bestAbove_4 : decode cX8_bestAbove 4 = .ok (.ireturn, 1) := by decide +kernel
theorem d_X8_bestBelow_0 : decode cX8_bestBelow 0 = .ok (.aload_n 0, 1) := by decide +kernel
theorem d_X8_bestBelow_1 : decode cX8_bestBelow 1 = .ok (.getfield 32, 3) := by decide +kernel
theorem d_X8_bestBelow_4 : decode cX8_bestBelow 4 = .ok (.ireturn, 1) := by decide +kernel
theorem d_X11_leastTerms_0 : decode cX11_leastTerms 0 = .ok (.iload_n 1, 1) := by decide +kernel
theorem d_X11_leastTerms_1 : decode cX11_leastTerms 1 = .ok (.istore_n 3, 1) := by decide +kernel
theorem d_X11_leastTerms_2 : decode cX11_leastTerms 2 = .ok (.iload_n 0, 1) := by decide +kernel
theorem d_X11_leastTerms_3 : decode cX11_leastTerms 3 = .ok (.istore 4, 2) := by decide +kernel
theorem d_X11_leastTerms_5 : decode cX11_leastTerms 5 = .ok (.iconst 0, 1) := by decide +kernel
theorem d_X11_leastTerms_6 : decode cX11_leastTerms 6 = .ok (.istore 5, 2) := by decide +kernel
theorem d_X11_leastTerms_8 : decode cX11_leastTerms 8 = .ok (.iload 5, 2) := by decide +kernel
theorem d_X11_leastTerms_10 : decode cX11_leastTerms 10 = .ok (.bipush 64, 2) := by decide +kernel
theorem d_X11_leastTerms_12 : decode cX11_leastTerms 12 = .ok (.if_icmp .ge 27, 3) := by decide +kernel
theorem d_X11_leastTerms_15 : decode cX11_leastTerms 15 = .ok (.iload 4, 2) := by decide +kernel
theorem d_X11_leastTerms_17 : decode cX11_leastTerms 17 = .ok (.ifCond .eq 22, 3) := by decide +kernel
theorem d_X11_leastTerms_20 : decode cX11_leastTerms 20 = .ok (.iload_n 3, 1) := by decide +kernel
theorem d_X11_leastTerms_21 : decode cX11_leastTerms 21 = .ok (.iload 4, 2) := by decide +kernel
theorem d_X11_leastTerms_23 : decode cX11_leastTerms 23 = .ok (.irem, 1) := by decide +kernel
theorem d_X11_leastTerms_24 : decode cX11_leastTerms 24 = .ok (.istore 6, 2) := by decide +kernel
theorem d_X11_leastTerms_26 : decode cX11_leastTerms 26 = .ok (.iload 4, 2) := by decide +kernel
theorem d_X11_leastTerms_28 : decode cX11_leastTerms 28 = .ok (.istore_n 3, 1) := by decide +kernel
theorem d_X11_leastTerms_29 : decode cX11_leastTerms 29 = .ok (.iload 6, 2) := by decide +kernel
theorem d_X11_leastTerms_31 : decode cX11_leastTerms 31 = .ok (.istore 4, 2) := by decide +kernel
theorem d_X11_leastTerms_33 : decode cX11_leastTerms 33 = .ok (.iinc 5 1, 3) := by decide +kernel
theorem d_X11_leastTerms_36 : decode cX11_leastTerms 36 = .ok (.goto (-28), 3) := by decide +kernel
theorem d_X11_leastTerms_39 : decode cX11_leastTerms 39 = .ok (.iload_n 2, 1) := by decide +kernel
theorem d_X11_leastTerms_40 : decode cX11_leastTerms 40 = .ok (.ifCond .ne 7, 3) := by decide +kernel
theorem d_X11_leastTerms_43 : decode cX11_leastTerms 43 = .ok (.iload_n 0, 1) := by decide +kernel
theorem d_X11_leastTerms_44 : decode cX11_leastTerms 44 = .ok (.goto 4, 3) := by decide +kernel
theorem d_X11_leastTerms_47 : decode cX11_leastTerms 47 = .ok (.iload_n 1, 1) := by decide +kernel
theorem d_X11_leastTerms_48 : decode cX11_leastTerms 48 = .ok (.istore 5, 2) := by decide +kernel
theorem d_X11_leastTerms_50 : decode cX11_leastTerms 50 = .ok (.iload_n 3, 1) := by decide +kernel
theorem d_X11_leastTerms_51 : decode cX11_leastTerms 51 = .ok (.ifCond .ne 8, 3) := by decide +kernel
theorem d_X11_leastTerms_54 : decode cX11_leastTerms 54 = .ok (.iload 5, 2) := by decide +kernel
theorem d_X11_leastTerms_56 : decode cX11_leastTerms 56 = .ok (.goto 7, 3) := by decide +kernel
theorem d_X11_leastTerms_59 : decode cX11_leastTerms 59 = .ok (.iload 5, 2) := by decide +kernel
theorem d_X11_leastTerms_61 : decode cX11_leastTerms 61 = .ok (.iload_n 3, 1) := by decide +kernel
theorem d_X11_leastTerms_62 : decode cX11_leastTerms 62 = .ok (.idiv, 1) := by decide +kernel
theorem d_X11_leastTerms_63 : decode cX11_leastTerms 63 = .ok (.ireturn, 1) := by decide +kernel
theorem d_X8_bestSet_0 : decode cX8_bestSet 0 = .ok (.aload_n 0, 1) := by decide +kernel
theorem d_X8_bestSet_1 : decode cX8_bestSet 1 = .ok (.getfield 25, 3) := by decide +kernel
theorem d_X8_bestSet_4 : decode cX8_bestSet 4 = .ok (.ireturn, 1) := by decide +kernel
theorem d_X11_thick_0 : decode cX11_thick 0 = .ok (.aload_n 0, 1) := by decide +kernel
theorem d_X11_thick_1 : decode cX11_thick 1 = .ok (.getfield 10, 3) := by decide +kernel
theorem d_X11_thick_4 : decode cX11_thick 4 = .ok (.getfield 184, 3) := by decide +kernel
theorem d_X11_thick_7 : decode cX11_thick 7 = .ok (.iconst 2, 1) := by decide +kernel
theorem d_X11_thick_8 : decode cX11_thick 8 = .ok (.if_icmp .lt 12, 3) := by decide +kernel
theorem d_X11_thick_11 : decode cX11_thick 11 = .ok (.iload_n 1, 1) := by decide +kernel
theorem d_X11_thick_12 : decode cX11_thick 12 = .ok (.ifCond .lt 8, 3) := by decide +kernel
theorem d_X11_thick_15 : decode cX11_thick 15 = .ok (.iload_n 1, 1) := by decide +kernel
theorem d_X11_thick_16 : decode cX11_thick 16 = .ok (.iconst 2, 1) := by decide +kernel
theorem d_X11_thick_17 : decode cX11_thick 17 = .ok (.if_icmp .le 5, 3) := by decide +kernel
theorem d_X11_thick_20 : decode cX11_thick 20 = .ok (.iconst (-1), 1) := by decide +kernel
theorem d_X11_thick_21 : decode cX11_thick 21 = .ok (.ireturn, 1) := by decide +kernel
theorem d_X11_thick_22 : decode cX11_thick 22 = .ok (.aload_n 0, 1) := by decide +kernel
theorem d_X11_thick_23 : decode cX11_thick 23 = .ok (.getfield 51, 3) := by decide +kernel
theorem d_X11_thick_26 : decode cX11_thick 26 = .ok (.invokevirtual 270, 3) := by decide +kernel
theorem d_X11_thick_29 : decode cX11_thick 29 = .ok (.iload_n 1, 1) := by decide +kernel
theorem d_X11_thick_30 : decode cX11_thick 30 = .ok (.iconst 2, 1) := by decide +kernel
theorem d_X11_thick_31 : decode cX11_thick 31 = .ok (.if_icmp .ne 11, 3) := by decide +kernel
theorem d_X11_thick_34 : decode cX11_thick 34 = .ok (.aload_n 0, 1) := by decide +kernel
theorem d_X11_thick_35 : decode cX11_thick 35 = .ok (.getfield 51, 3) := by decide +kernel
theorem d_X11_thick_38 : decode cX11_thick 38 = .ok (.invokevirtual 273, 3) := by decide +kernel
theorem d_X11_thick_41 : decode cX11_thick 41 = .ok (.ireturn, 1) := by decide +kernel
theorem d_X11_thick_42 : decode cX11_thick 42 = .ok (.aload_n 0, 1) := by decide +kernel
theorem d_X11_thick_43 : decode cX11_thick 43 = .ok (.getfield 51, 3) := by decide +kernel
theorem d_X11_thick_46 : decode cX11_thick 46 = .ok (.invokevirtual 276, 3) := by decide +kernel
theorem d_X11_thick_49 : decode cX11_thick 49 = .ok (.aload_n 0, 1) := by decide +kernel
theorem d_X11_thick_50 : decode cX11_thick 50 = .ok (.getfield 51, 3) := by decide +kernel
theorem d_X11_thick_53 : decode cX11_thick 53 = .ok (.invokevirtual 279, 3) := by decide +kernel
theorem d_X11_thick_56 : decode cX11_thick 56 = .ok (.iload_n 1, 1) := by decide +kernel
theorem d_X11_thick_57 : decode cX11_thick 57 = .ok (.invokestatic 282, 3) := by decide +kernel
theorem d_X11_thick_60 : decode cX11_thick 60 = .ok (.ireturn, 1) := by decide +kernel
theorem d_X8_findCrowded_0 : decode cX8_findCrowded 0 = .ok (.aload_n 0, 1) := by decide +kernel
theorem d_X8_findCrowded_1 : decode cX8_findCrowded 1 = .ok (.invokevirtual 71, 3) := by decide +kernel
theorem d_X8_findCrowded_4 : decode cX8_findCrowded 4 = .ok (.iconst 0, 1) := by decide +kernel
theorem d_X8_findCrowded_5 : decode cX8_findCrowded 5 = .ok (.istore_n 2, 1) := by decide +kernel
theorem d_X8_findCrowded_6 : decode cX8_findCrowded 6 = .ok (.iconst 0, 1) := by decide +kernel
theorem d_X8_findCrowded_7 : decode cX8_findCrowded 7 = .ok (.istore_n 3, 1) := by decide +kernel
theorem d_X8_findCrowded_8 : decode cX8_findCrowded 8 = .ok (.iconst 0, 1) := by decide +kernel
theorem d_X8_findCrowded_9 : decode cX8_findCrowded 9 = .ok (.istore 4, 2) := by decide +kernel
theorem d_X8_findCrowded_11 : decode cX8_findCrowded 11 = .ok (.iconst 3, 1) := by decide +kernel
theorem d_X8_findCrowded_12 : decode cX8_findCrowded 12 = .ok (.istore 5, 2) := by decide +kernel
theorem d_X8_findCrowded_14 : decode cX8_findCrowded 14 = .ok (.iload 5, 2) := by decide +kernel
theorem d_X8_findCrowded_16 : decode cX8_findCrowded 16 = .ok (.aload_n 0, 1) := by decide +kernel
theorem d_X8_findCrowded_17 : decode cX8_findCrowded 17 = .ok (.getfield 21, 3) := by decide +kernel
theorem d_X8_findCrowded_20 : decode cX8_findCrowded 20 = .ok (.invokevirtual 57, 3) := by decide +kernel
theorem d_X8_findCrowded_23 : decode cX8_findCrowded 23 = .ok (.if_icmp .gt 70, 3) := by decide +kernel
theorem d_X8_findCrowded_26 : decode cX8_findCrowded 26 = .ok (.iload 5, 2) := by decide +kernel
theorem d_X8_findCrowded_28 : decode cX8_findCrowded 28 = .ok (.invokestatic 65, 3) := by decide +kernel
theorem d_X8_findCrowded_31 : decode cX8_findCrowded 31 = .ok (.istore 6, 2) := by decide +kernel
theorem d_X8_findCrowded_33 : decode cX8_findCrowded 33 = .ok (.iload 6, 2) := by decide +kernel
theorem d_X8_findCrowded_35 : decode cX8_findCrowded 35 = .ok (.iconst 2, 1) := by decide +kernel
theorem d_X8_findCrowded_36 : decode cX8_findCrowded 36 = .ok (.if_icmp .ge 6, 3) := by decide +kernel
theorem d_X8_findCrowded_39 : decode cX8_findCrowded 39 = .ok (.goto 48, 3) := by decide +kernel
theorem d_X8_findCrowded_42 : decode cX8_findCrowded 42 = .ok (.aload_n 0, 1) := by decide +kernel
theorem d_X8_findCrowded_43 : decode cX8_findCrowded 43 = .ok (.getfield 9, 3) := by decide +kernel
theorem d_X8_findCrowded_46 : decode cX8_findCrowded 46 = .ok (.iload 5, 2) := by decide +kernel
theorem d_X8_findCrowded_48 : decode cX8_findCrowded 48 = .ok (.iaload, 1) := by decide +kernel
theorem d_X8_findCrowded_49 : decode cX8_findCrowded 49 = .ok (.iload_n 1, 1) := by decide +kernel
theorem d_X8_findCrowded_50 : decode cX8_findCrowded 50 = .ok (.iload 6, 2) := by decide +kernel
theorem d_X8_findCrowded_52 : decode cX8_findCrowded 52 = .ok (.iconst 1, 1) := by decide +kernel
theorem d_X8_findCrowded_53 : decode cX8_findCrowded 53 = .ok (.isub, 1) := by decide +kernel
theorem d_X8_findCrowded_54 : decode cX8_findCrowded 54 = .ok (.imul, 1) := by decide +kernel
theorem d_X8_findCrowded_55 : decode cX8_findCrowded 55 = .ok (.isub, 1) := by decide +kernel
theorem d_X8_findCrowded_56 : decode cX8_findCrowded 56 = .ok (.istore 7, 2) := by decide +kernel
theorem d_X8_findCrowded_58 : decode cX8_findCrowded 58 = .ok (.iload 7, 2) := by decide +kernel
theorem d_X8_findCrowded_60 : decode cX8_findCrowded 60 = .ok (.iload_n 3, 1) := by decide +kernel
theorem d_X8_findCrowded_61 : decode cX8_findCrowded 61 = .ok (.if_icmp .gt 16, 3) := by decide +kernel
theorem d_X8_findCrowded_64 : decode cX8_findCrowded 64 = .ok (.iload 7, 2) := by decide +kernel
theorem d_X8_findCrowded_66 : decode cX8_findCrowded 66 = .ok (.iload_n 3, 1) := by decide +kernel
theorem d_X8_findCrowded_67 : decode cX8_findCrowded 67 = .ok (.if_icmp .ne 20, 3) := by decide +kernel
theorem d_X8_findCrowded_70 : decode cX8_findCrowded 70 = .ok (.iload 6, 2) := by decide +kernel
theorem d_X8_findCrowded_72 : decode cX8_findCrowded 72 = .ok (.iload 4, 2) := by decide +kernel
theorem d_X8_findCrowded_74 : decode cX8_findCrowded 74 = .ok (.if_icmp .ge 13, 3) := by decide +kernel
theorem d_X8_findCrowded_77 : decode cX8_findCrowded 77 = .ok (.iload 5, 2) := by decide +kernel
theorem d_X8_findCrowded_79 : decode cX8_findCrowded 79 = .ok (.istore_n 2, 1) := by decide +kernel
theorem d_X8_findCrowded_80 : decode cX8_findCrowded 80 = .ok (.iload 7, 2) := by decide +kernel
theorem d_X8_findCrowded_82 : decode cX8_findCrowded 82 = .ok (.istore_n 3, 1) := by decide +kernel
theorem d_X8_findCrowded_83 : decode cX8_findCrowded 83 = .ok (.iload 6, 2) := by decide +kernel
theorem d_X8_findCrowded_85 : decode cX8_findCrowded 85 = .ok (.istore 4, 2) := by decide +kernel
theorem d_X8_findCrowded_87 : decode cX8_findCrowded 87 = .ok (.iinc 5 1, 3) := by decide +kernel
theorem d_X8_findCrowded_90 : decode cX8_findCrowded 90 = .ok (.goto (-76), 3) := by decide +kernel
theorem d_X8_findCrowded_93 : decode cX8_findCrowded 93 = .ok (.iload_n 2, 1) := by decide +kernel
theorem d_X8_findCrowded_94 : decode cX8_findCrowded 94 = .ok (.ireturn, 1) := by decide +kernel
theorem d_X11_crowded_0 : decode cX11_crowded 0 = .ok (.iload_n 1, 1) := by decide +kernel
theorem d_X11_crowded_1 : decode cX11_crowded 1 = .ok (.ifCond .lt 9, 3) := by decide +kernel
theorem d_X11_crowded_4 : decode cX11_crowded 4 = .ok (.iload_n 1, 1) := by decide +kernel
theorem d_X11_crowded_5 : decode cX11_crowded 5 = .ok (.bipush 24, 2) := by decide +kernel
theorem d_X11_crowded_7 : decode cX11_crowded 7 = .ok (.if_icmp .le 7, 3) := by decide +kernel
theorem d_X11_crowded_10 : decode cX11_crowded 10 = .ok (.iconst (-1), 1) := by decide +kernel
theorem d_X11_crowded_11 : decode cX11_crowded 11 = .ok (.goto 11, 3) := by decide +kernel
theorem d_X11_crowded_14 : decode cX11_crowded 14 = .ok (.aload_n 0, 1) := by decide +kernel
theorem d_X11_crowded_15 : decode cX11_crowded 15 = .ok (.getfield 51, 3) := by decide +kernel
theorem d_X11_crowded_18 : decode cX11_crowded 18 = .ok (.iload_n 1, 1) := by decide +kernel
theorem d_X11_crowded_19 : decode cX11_crowded 19 = .ok (.invokevirtual 286, 3) := by decide +kernel
theorem d_X11_crowded_22 : decode cX11_crowded 22 = .ok (.ireturn, 1) := by decide +kernel
theorem d_X8_innerOf_0 : decode cX8_innerOf 0 = .ok (.iload_n 1, 1) := by decide +kernel
theorem d_X8_innerOf_1 : decode cX8_innerOf 1 = .ok (.ifCond .lt 10, 3) := by decide +kernel
theorem d_X8_innerOf_4 : decode cX8_innerOf 4 = .ok (.iload_n 1, 1) := by decide +kernel
theorem d_X8_innerOf_5 : decode cX8_innerOf 5 = .ok (.sipush 1024, 3) := by decide +kernel
theorem d_X8_innerOf_8 : decode cX8_innerOf 8 = .ok (.if_icmp .lt 7, 3) := by decide +kernel
theorem d_X8_innerOf_11 : decode cX8_innerOf 11 = .ok (.iconst 0, 1) := by decide +kernel
theorem d_X8_innerOf_12 : decode cX8_innerOf 12 = .ok (.goto 9, 3) := by decide +kernel
theorem d_X8_innerOf_15 : decode cX8_innerOf 15 = .ok (.aload_n 0, 1) := by decide +kernel
theorem d_X8_innerOf_16 : decode cX8_innerOf 16 = .ok (.getfield 9, 3) := by decide +kernel
theorem d_X8_innerOf_19 : decode cX8_innerOf 19 = .ok (.iload_n 1, 1) := by decide +kernel
theorem d_X8_innerOf_20 : decode cX8_innerOf 20 = .ok (.iaload, 1) := by decide +kernel
theorem d_X8_innerOf_21 : decode cX8_innerOf 21 = .ok (.ireturn, 1) := by decide +kernel
theorem d_X7_mostInside_0 : decode cX7_mostInside 0 = .ok (.iload_n 1, 1) := by decide +kernel
theorem d_X7_mostInside_1 : decode cX7_mostInside 1 = .ok (.iload_n 1, 1) := by decide +kernel
theorem d_X7_mostInside_2 : decode cX7_mostInside 2 = .ok (.ineg, 1) := by decide +kernel
theorem d_X7_mostInside_3 : decode cX7_mostInside 3 = .ok (.iand, 1) := by decide +kernel
theorem d_X7_mostInside_4 : decode cX7_mostInside 4 = .ok (.istore_n 2, 1) := by decide +kernel
theorem d_X7_mostInside_5 : decode cX7_mostInside 5 = .ok (.iload_n 1, 1) := by decide +kernel
theorem d_X7_mostInside_6 : decode cX7_mostInside 6 = .ok (.iload_n 2, 1) := by decide +kernel
theorem d_X7_mostInside_7 : decode cX7_mostInside 7 = .ok (.ixor, 1) := by decide +kernel
theorem d_X7_mostInside_8 : decode cX7_mostInside 8 = .ok (.istore_n 3, 1) := by decide +kernel
theorem d_X7_mostInside_9 : decode cX7_mostInside 9 = .ok (.iconst (-1), 1) := by decide +kernel
theorem d_X7_mostInside_10 : decode cX7_mostInside 10 = .ok (.istore 4, 2) := by decide +kernel
theorem d_X7_mostInside_12 : decode cX7_mostInside 12 = .ok (.iload_n 3, 1) := by decide +kernel
theorem d_X7_mostInside_13 : decode cX7_mostInside 13 = .ok (.istore 5, 2) := by decide +kernel
theorem d_X7_mostInside_15 : decode cX7_mostInside 15 = .ok (.iload 5, 2) := by decide +kernel
theorem d_X7_mostInside_17 : decode cX7_mostInside 17 = .ok (.ifCond .le 51, 3) := by decide +kernel
theorem d_X7_mostInside_20 : decode cX7_mostInside 20 = .ok (.aload_n 0, 1) := by decide +kernel
theorem d_X7_mostInside_21 : decode cX7_mostInside 21 = .ok (.getfield 9, 3) := by decide +kernel
theorem d_X7_mostInside_24 : decode cX7_mostInside 24 = .ok (.iload 5, 2) := by decide +kernel
theorem d_X7_mostInside_26 : decode cX7_mostInside 26 = .ok (.iaload, 1) := by decide +kernel
theorem d_X7_mostInside_27 : decode cX7_mostInside 27 = .ok (.iconst (-1), 1) := by decide +kernel
theorem d_X7_mostInside_28 : decode cX7_mostInside 28 = .ok (.if_icmp .eq 29, 3) := by decide +kernel
theorem d_X7_mostInside_31 : decode cX7_mostInside 31 = .ok (.iload 4, 2) := by decide +kernel
theorem d_X7_mostInside_33 : decode cX7_mostInside 33 = .ok (.aload_n 0, 1) := by decide +kernel
theorem d_X7_mostInside_34 : decode cX7_mostInside 34 = .ok (.getfield 9, 3) := by decide +kernel
theorem d_X7_mostInside_37 : decode cX7_mostInside 37 = .ok (.iload 5, 2) := by decide +kernel
theorem d_X7_mostInside_39 : decode cX7_mostInside 39 = .ok (.iaload, 1) := by decide +kernel
theorem d_X7_mostInside_40 : decode cX7_mostInside 40 = .ok (.aload_n 0, 1) := by decide +kernel
theorem d_X7_mostInside_41 : decode cX7_mostInside 41 = .ok (.getfield 22, 3) := by decide +kernel
theorem d_X7_mostInside_44 : decode cX7_mostInside 44 = .ok (.iload_n 1, 1) := by decide +kernel
theorem d_X7_mostInside_45 : decode cX7_mostInside 45 = .ok (.iload 5, 2) := by decide +kernel
theorem d_X7_mostInside_47 : decode cX7_mostInside 47 = .ok (.ixor, 1) := by decide +kernel
theorem d_X7_mostInside_48 : decode cX7_mostInside 48 = .ok (.invokevirtual 44, 3) := by decide +kernel
theorem d_X7_mostInside_51 : decode cX7_mostInside 51 = .ok (.iadd, 1) := by decide +kernel
theorem d_X7_mostInside_52 : decode cX7_mostInside 52 = .ok (.invokestatic 58, 3) := by decide +kernel
theorem d_X7_mostInside_55 : decode cX7_mostInside 55 = .ok (.istore 4, 2) := by decide +kernel
theorem d_X7_mostInside_57 : decode cX7_mostInside 57 = .ok (.iload 5, 2) := by decide +kernel
theorem d_X7_mostInside_59 : decode cX7_mostInside 59 = .ok (.iconst 1, 1) := by decide +kernel
theorem d_X7_mostInside_60 : decode cX7_mostInside 60 = .ok (.isub, 1) := by decide +kernel
theorem d_X7_mostInside_61 : decode cX7_mostInside 61 = .ok (.iload_n 3, 1) := by decide +kernel
theorem d_X7_mostInside_62 : decode cX7_mostInside 62 = .ok (.iand, 1) := by decide +kernel
theorem d_X7_mostInside_63 : decode cX7_mostInside 63 = .ok (.istore 5, 2) := by decide +kernel
theorem d_X7_mostInside_65 : decode cX7_mostInside 65 = .ok (.goto (-50), 3) := by decide +kernel
theorem d_X7_mostInside_68 : decode cX7_mostInside 68 = .ok (.iload 4, 2) := by decide +kernel
theorem d_X7_mostInside_70 : decode cX7_mostInside 70 = .ok (.ireturn, 1) := by decide +kernel
theorem d_X7_addPiece_0 : decode cX7_addPiece 0 = .ok (.iconst 2, 1) := by decide +kernel
theorem d_X7_addPiece_1 : decode cX7_addPiece 1 = .ok (.istore_n 2, 1) := by decide +kernel
theorem d_X7_addPiece_2 : decode cX7_addPiece 2 = .ok (.iload_n 2, 1) := by decide +kernel
theorem d_X7_addPiece_3 : decode cX7_addPiece 3 = .ok (.iload_n 1, 1) := by decide +kernel
theorem d_X7_addPiece_4 : decode cX7_addPiece 4 = .ok (.if_icmp .gt 20, 3) := by decide +kernel
theorem d_X7_addPiece_7 : decode cX7_addPiece 7 = .ok (.aload_n 0, 1) := by decide +kernel
theorem d_X7_addPiece_8 : decode cX7_addPiece 8 = .ok (.getfield 15, 3) := by decide +kernel
theorem d_X7_addPiece_11 : decode cX7_addPiece 11 = .ok (.iload_n 2, 1) := by decide +kernel
theorem d_X7_addPiece_12 : decode cX7_addPiece 12 = .ok (.aload_n 0, 1) := by decide +kernel
theorem d_X7_addPiece_13 : decode cX7_addPiece 13 = .ok (.iload_n 2, 1) := by decide +kernel
theorem d_X7_addPiece_14 : decode cX7_addPiece 14 = .ok (.invokevirtual 51, 3) := by decide +kernel
theorem d_X7_addPiece_17 : decode cX7_addPiece 17 = .ok (.iastore, 1) := by decide +kernel
theorem d_X7_addPiece_18 : decode cX7_addPiece 18 = .ok (.iinc 2 2, 3) := by decide +kernel
theorem d_X7_addPiece_21 : decode cX7_addPiece 21 = .ok (.goto (-19), 3) := by decide +kernel
theorem d_X7_addPiece_24 : decode cX7_addPiece 24 = .ok (.aload_n 0, 1) := by decide +kernel
theorem d_X7_addPiece_25 : decode cX7_addPiece 25 = .ok (.getfield 9, 3) := by decide +kernel
theorem d_X7_addPiece_28 : decode cX7_addPiece 28 = .ok (.astore_n 2, 1) := by decide +kernel
theorem d_X7_addPiece_29 : decode cX7_addPiece 29 = .ok (.aload_n 0, 1) := by decide +kernel
theorem d_X7_addPiece_30 : decode cX7_addPiece 30 = .ok (.aload_n 0, 1) := by decide +kernel
theorem d_X7_addPiece_31 : decode cX7_addPiece 31 = .ok (.getfield 15, 3) := by decide +kernel
theorem d_X7_addPiece_34 : decode cX7_addPiece 34 = .ok (.putfield 9, 3) := by decide +kernel
theorem d_X7_addPiece_37 : decode cX7_addPiece 37 = .ok (.aload_n 0, 1) := by decide +kernel
theorem d_X7_addPiece_38 : decode cX7_addPiece 38 = .ok (.aload_n 2, 1) := by decide +kernel
theorem d_X7_addPiece_39 : decode cX7_addPiece 39 = .ok (.putfield 15, 3) := by decide +kernel
theorem d_X7_addPiece_42 : decode cX7_addPiece 42 = .ok (.return_, 1) := by decide +kernel
theorem d_X7_findWeakest_0 : decode cX7_findWeakest 0 = .ok (.aload_n 0, 1) := by decide +kernel
theorem d_X7_findWeakest_1 : decode cX7_findWeakest 1 = .ok (.getfield 22, 3) := by decide +kernel
theorem d_X7_findWeakest_4 : decode cX7_findWeakest 4 = .ok (.invokevirtual 33, 3) := by decide +kernel
theorem d_X7_findWeakest_7 : decode cX7_findWeakest 7 = .ok (.aload_n 0, 1) := by decide +kernel
theorem d_X7_findWeakest_8 : decode cX7_findWeakest 8 = .ok (.getfield 18, 3) := by decide +kernel
theorem d_X7_findWeakest_11 : decode cX7_findWeakest 11 = .ok (.invokevirtual 38, 3) := by decide +kernel
theorem d_X7_findWeakest_14 : decode cX7_findWeakest 14 = .ok (.istore_n 1, 1) := by decide +kernel
theorem d_X7_findWeakest_15 : decode cX7_findWeakest 15 = .ok (.aload_n 0, 1) := by decide +kernel
theorem d_X7_findWeakest_16 : decode cX7_findWeakest 16 = .ok (.getfield 22, 3) := by decide +kernel
theorem d_X7_findWeakest_19 : decode cX7_findWeakest 19 = .ok (.iload_n 1, 1) := by decide +kernel
theorem d_X7_findWeakest_20 : decode cX7_findWeakest 20 = .ok (.invokevirtual 44, 3) := by decide +kernel
theorem d_X7_findWeakest_23 : decode cX7_findWeakest 23 = .ok (.istore_n 2, 1) := by decide +kernel
theorem d_X7_findWeakest_24 : decode cX7_findWeakest 24 = .ok (.iconst 2, 1) := by decide +kernel
theorem d_X7_findWeakest_25 : decode cX7_findWeakest 25 = .ok (.istore_n 3, 1) := by decide +kernel
theorem d_X7_findWeakest_26 : decode cX7_findWeakest 26 = .ok (.iload_n 3, 1) := by decide +kernel
theorem d_X7_findWeakest_27 : decode cX7_findWeakest 27 = .ok (.iload_n 1, 1) := by decide +kernel
theorem d_X7_findWeakest_28 : decode cX7_findWeakest 28 = .ok (.if_icmp .gt 23, 3) := by decide +kernel
theorem d_X7_findWeakest_31 : decode cX7_findWeakest 31 = .ok (.aload_n 0, 1) := by decide +kernel
theorem d_X7_findWeakest_32 : decode cX7_findWeakest 32 = .ok (.getfield 9, 3) := by decide +kernel
theorem d_X7_findWeakest_35 : decode cX7_findWeakest 35 = .ok (.iload_n 3, 1) := by decide +kernel
theorem d_X7_findWeakest_36 : decode cX7_findWeakest 36 = .ok (.aload_n 0, 1) := by decide +kernel
theorem d_X7_findWeakest_37 : decode cX7_findWeakest 37 = .ok (.getfield 22, 3) := by decide +kernel
theorem d_X7_findWeakest_40 : decode cX7_findWeakest 40 = .ok (.iload_n 3, 1) := by decide +kernel
theorem d_X7_findWeakest_41 : decode cX7_findWeakest 41 = .ok (.invokevirtual 44, 3) := by decide +kernel
theorem d_X7_findWeakest_44 : decode cX7_findWeakest 44 = .ok (.iastore, 1) := by decide +kernel
theorem d_X7_findWeakest_45 : decode cX7_findWeakest 45 = .ok (.iinc 3 2, 3) := by decide +kernel
theorem d_X7_findWeakest_48 : decode cX7_findWeakest 48 = .ok (.goto (-22), 3) := by decide +kernel
theorem d_X7_findWeakest_51 : decode cX7_findWeakest 51 = .ok (.aload_n 0, 1) := by decide +kernel
theorem d_X7_findWeakest_52 : decode cX7_findWeakest 52 = .ok (.iconst 0, 1) := by decide +kernel
theorem d_X7_findWeakest_53 : decode cX7_findWeakest 53 = .ok (.putfield 30, 3) := by decide +kernel
theorem d_X7_findWeakest_56 : decode cX7_findWeakest 56 = .ok (.iconst 2, 1) := by decide +kernel
theorem d_X7_findWeakest_57 : decode cX7_findWeakest 57 = .ok (.istore_n 3, 1) := by decide +kernel
theorem d_X7_findWeakest_58 : decode cX7_findWeakest 58 = .ok (.iload_n 3, 1) := by decide +kernel
theorem d_X7_findWeakest_59 : decode cX7_findWeakest 59 = .ok (.aload_n 0, 1) := by decide +kernel
theorem d_X7_findWeakest_60 : decode cX7_findWeakest 60 = .ok (.getfield 18, 3) := by decide +kernel
theorem d_X7_findWeakest_63 : decode cX7_findWeakest 63 = .ok (.getfield 48, 3) := by decide +kernel
theorem d_X7_findWeakest_66 : decode cX7_findWeakest 66 = .ok (.if_icmp .gt 61, 3) := by decide +kernel
theorem d_X7_findWeakest_69 : decode cX7_findWeakest 69 = .ok (.iload_n 2, 1) := by decide +kernel
theorem d_X7_findWeakest_70 : decode cX7_findWeakest 70 = .ok (.aload_n 0, 1) := by decide +kernel
theorem d_X7_findWeakest_71 : decode cX7_findWeakest 71 = .ok (.iload_n 1, 1) := by decide +kernel
theorem d_X7_findWeakest_72 : decode cX7_findWeakest 72 = .ok (.invokevirtual 51, 3) := by decide +kernel
theorem d_X7_findWeakest_75 : decode cX7_findWeakest 75 = .ok (.isub, 1) := by decide +kernel
theorem d_X7_findWeakest_76 : decode cX7_findWeakest 76 = .ok (.istore 4, 2) := by decide +kernel
theorem d_X7_findWeakest_78 : decode cX7_findWeakest 78 = .ok (.aload_n 0, 1) := by decide +kernel
theorem d_X7_findWeakest_79 : decode cX7_findWeakest 79 = .ok (.getfield 30, 3) := by decide +kernel
theorem d_X7_findWeakest_82 : decode cX7_findWeakest 82 = .ok (.ifCond .eq 23, 3) := by decide +kernel
theorem d_X7_findWeakest_85 : decode cX7_findWeakest 85 = .ok (.iload 4, 2) := by decide +kernel
theorem d_X7_findWeakest_87 : decode cX7_findWeakest 87 = .ok (.aload_n 0, 1) := by decide +kernel
theorem d_X7_findWeakest_88 : decode cX7_findWeakest 88 = .ok (.getfield 30, 3) := by decide +kernel
theorem d_X7_findWeakest_91 : decode cX7_findWeakest 91 = .ok (.iconst 1, 1) := by decide +kernel
theorem d_X7_findWeakest_92 : decode cX7_findWeakest 92 = .ok (.isub, 1) := by decide +kernel
theorem d_X7_findWeakest_93 : decode cX7_findWeakest 93 = .ok (.imul, 1) := by decide +kernel
theorem d_X7_findWeakest_94 : decode cX7_findWeakest 94 = .ok (.aload_n 0, 1) := by decide +kernel
theorem d_X7_findWeakest_95 : decode cX7_findWeakest 95 = .ok (.getfield 26, 3) := by decide +kernel
theorem d_X7_findWeakest_98 : decode cX7_findWeakest 98 = .ok (.iload_n 3, 1) := by decide +kernel
theorem d_X7_findWeakest_99 : decode cX7_findWeakest 99 = .ok (.iconst 1, 1) := by decide +kernel
theorem d_X7_findWeakest_100 : decode cX7_findWeakest 100 = .ok (.isub, 1) := by decide +kernel
theorem d_X7_findWeakest_101 : decode cX7_findWeakest 101 = .ok (.imul, 1) := by decide +kernel
theorem d_X7_findWeakest_102 : decode cX7_findWeakest 102 = .ok (.if_icmp .ge 14, 3) := by decide +kernel
theorem d_X7_findWeakest_105 : decode cX7_findWeakest 105 = .ok (.aload_n 0, 1) := by decide +kernel
theorem d_X7_findWeakest_106 : decode cX7_findWeakest 106 = .ok (.iload 4, 2) := by decide +kernel
theorem d_X7_findWeakest_108 : decode cX7_findWeakest 108 = .ok (.putfield 26, 3) := by decide +kernel
theorem d_X7_findWeakest_111 : decode cX7_findWeakest 111 = .ok (.aload_n 0, 1) := by decide +kernel
theorem d_X7_findWeakest_112 : decode cX7_findWeakest 112 = .ok (.iload_n 3, 1) := by decide +kernel
theorem d_X7_findWeakest_113 : decode cX7_findWeakest 113 = .ok (.putfield 30, 3) := by decide +kernel
theorem d_X7_findWeakest_116 : decode cX7_findWeakest 116 = .ok (.aload_n 0, 1) := by decide +kernel
theorem d_X7_findWeakest_117 : decode cX7_findWeakest 117 = .ok (.iload_n 1, 1) := by decide +kernel
theorem d_X7_findWeakest_118 : decode cX7_findWeakest 118 = .ok (.invokevirtual 54, 3) := by decide +kernel
theorem d_X7_findWeakest_121 : decode cX7_findWeakest 121 = .ok (.iinc 3 1, 3) := by decide +kernel
theorem d_X7_findWeakest_124 : decode cX7_findWeakest 124 = .ok (.goto (-66), 3) := by decide +kernel
theorem d_X7_findWeakest_127 : decode cX7_findWeakest 127 = .ok (.return_, 1) := by decide +kernel
theorem d_X7_above_0 : decode cX7_above 0 = .ok (.aload_n 0, 1) := by decide +kernel
theorem d_X7_above_1 : decode cX7_above 1 = .ok (.getfield 26, 3) := by decide +kernel
theorem d_X7_above_4 : decode cX7_above 4 = .ok (.ireturn, 1) := by decide +kernel
theorem d_X7_pieces_0 : decode cX7_pieces 0 = .ok (.aload_n 0, 1) := by decide +kernel
theorem d_X7_pieces_1 : decode cX7_pieces 1 = .ok (.getfield 30, 3) := by decide +kernel
theorem d_X7_pieces_4 : decode cX7_pieces 4 = .ok (.ireturn, 1) := by decide +kernel
theorem d_X11_strength_0 : decode cX11_strength 0 = .ok (.aload_n 0, 1) := by decide +kernel
theorem d_X11_strength_1 : decode cX11_strength 1 = .ok (.getfield 10, 3) := by decide +kernel
theorem d_X11_strength_4 : decode cX11_strength 4 = .ok (.getfield 184, 3) := by decide +kernel
theorem d_X11_strength_7 : decode cX11_strength 7 = .ok (.iconst 2, 1) := by decide +kernel
theorem d_X11_strength_8 : decode cX11_strength 8 = .ok (.if_icmp .lt 12, 3) := by decide +kernel
theorem d_X11_strength_11 : decode cX11_strength 11 = .ok (.iload_n 1, 1) := by decide +kernel
theorem d_X11_strength_12 : decode cX11_strength 12 = .ok (.ifCond .lt 8, 3) := by decide +kernel
theorem d_X11_strength_15 : decode cX11_strength 15 = .ok (.iload_n 1, 1) := by decide +kernel
theorem d_X11_strength_16 : decode cX11_strength 16 = .ok (.iconst 2, 1) := by decide +kernel
theorem d_X11_strength_17 : decode cX11_strength 17 = .ok (.if_icmp .le 5, 3) := by decide +kernel
theorem d_X11_strength_20 : decode cX11_strength 20 = .ok (.iconst (-1), 1) := by decide +kernel
theorem d_X11_strength_21 : decode cX11_strength 21 = .ok (.ireturn, 1) := by decide +kernel
theorem d_X11_strength_22 : decode cX11_strength 22 = .ok (.aload_n 0, 1) := by decide +kernel
theorem d_X11_strength_23 : decode cX11_strength 23 = .ok (.getfield 67, 3) := by decide +kernel
theorem d_X11_strength_26 : decode cX11_strength 26 = .ok (.invokevirtual 289, 3) := by decide +kernel
theorem d_X11_strength_29 : decode cX11_strength 29 = .ok (.iload_n 1, 1) := by decide +kernel
theorem d_X11_strength_30 : decode cX11_strength 30 = .ok (.iconst 2, 1) := by decide +kernel
theorem d_X11_strength_31 : decode cX11_strength 31 = .ok (.if_icmp .ne 11, 3) := by decide +kernel
theorem d_X11_strength_34 : decode cX11_strength 34 = .ok (.aload_n 0, 1) := by decide +kernel
theorem d_X11_strength_35 : decode cX11_strength 35 = .ok (.getfield 67, 3) := by decide +kernel
theorem d_X11_strength_38 : decode cX11_strength 38 = .ok (.invokevirtual 292, 3) := by decide +kernel
theorem d_X11_strength_41 : decode cX11_strength 41 = .ok (.ireturn, 1) := by decide +kernel
theorem d_X11_strength_42 : decode cX11_strength 42 = .ok (.aload_n 0, 1) := by decide +kernel
theorem d_X11_strength_43 : decode cX11_strength 43 = .ok (.getfield 67, 3) := by decide +kernel
theorem d_X11_strength_46 : decode cX11_strength 46 = .ok (.invokevirtual 294, 3) := by decide +kernel
theorem d_X11_strength_49 : decode cX11_strength 49 = .ok (.aload_n 0, 1) := by decide +kernel
theorem d_X11_strength_50 : decode cX11_strength 50 = .ok (.getfield 67, 3) := by decide +kernel
theorem d_X11_strength_53 : decode cX11_strength 53 = .ok (.invokevirtual 292, 3) := by decide +kernel
theorem d_X11_strength_56 : decode cX11_strength 56 = .ok (.iconst 1, 1) := by decide +kernel
theorem d_X11_strength_57 : decode cX11_strength 57 = .ok (.isub, 1) := by decide +kernel
theorem d_X11_strength_58 : decode cX11_strength 58 = .ok (.iload_n 1, 1) := by decide +kernel
theorem d_X11_strength_59 : decode cX11_strength 59 = .ok (.invokestatic 282, 3) := by decide +kernel
theorem d_X11_strength_62 : decode cX11_strength 62 = .ok (.ireturn, 1) := by decide +kernel
theorem d_X8_leastLoad_0 : decode cX8_leastLoad 0 = .ok (.aload_n 0, 1) := by decide +kernel
theorem d_X8_leastLoad_1 : decode cX8_leastLoad 1 = .ok (.iconst 0, 1) := by decide +kernel
theorem d_X8_leastLoad_2 : decode cX8_leastLoad 2 = .ok (.invokevirtual 73, 3) := by decide +kernel
theorem d_X8_leastLoad_5 : decode cX8_leastLoad 5 = .ok (.ireturn, 1) := by decide +kernel
theorem d_X11_even_0 : decode cX11_even 0 = .ok (.aload_n 0, 1) := by decide +kernel
theorem d_X11_even_1 : decode cX11_even 1 = .ok (.getfield 51, 3) := by decide +kernel
theorem d_X11_even_4 : decode cX11_even 4 = .ok (.invokevirtual 297, 3) := by decide +kernel
theorem d_X11_even_7 : decode cX11_even 7 = .ok (.ireturn, 1) := by decide +kernel
theorem d_X6_enters_0 : decode cX6_enters 0 = .ok (.iload_n 2, 1) := by decide +kernel
theorem d_X6_enters_1 : decode cX6_enters 1 = .ok (.aload_n 0, 1) := by decide +kernel
theorem d_X6_enters_2 : decode cX6_enters 2 = .ok (.getfield 15, 3) := by decide +kernel
theorem d_X6_enters_5 : decode cX6_enters 5 = .ok (.iload_n 1, 1) := by decide +kernel
theorem d_X6_enters_6 : decode cX6_enters 6 = .ok (.invokevirtual 47, 3) := by decide +kernel
theorem d_X6_enters_9 : decode cX6_enters 9 = .ok (.ishr, 1) := by decide +kernel
theorem d_X6_enters_10 : decode cX6_enters 10 = .ok (.iconst 1, 1) := by decide +kernel
theorem d_X6_enters_11 : decode cX6_enters 11 = .ok (.iand, 1) := by decide +kernel
theorem d_X6_enters_12 : decode cX6_enters 12 = .ok (.ifCond .eq 22, 3) := by decide +kernel
theorem d_X6_enters_15 : decode cX6_enters 15 = .ok (.iload_n 2, 1) := by decide +kernel
theorem d_X6_enters_16 : decode cX6_enters 16 = .ok (.aload_n 0, 1) := by decide +kernel
theorem d_X6_enters_17 : decode cX6_enters 17 = .ok (.getfield 15, 3) := by decide +kernel
theorem d_X6_enters_20 : decode cX6_enters 20 = .ok (.iload_n 1, 1) := by decide +kernel
theorem d_X6_enters_21 : decode cX6_enters 21 = .ok (.invokevirtual 51, 3) := by decide +kernel
theorem d_X6_enters_24 : decode cX6_enters 24 = .ok (.ishr, 1) := by decide +kernel
theorem d_X6_enters_25 : decode cX6_enters 25 = .ok (.iconst 1, 1) := by decide +kernel
theorem d_X6_enters_26 : decode cX6_enters 26 = .ok (.iand, 1) := by decide +kernel
theorem d_X6_enters_27 : decode cX6_enters 27 = .ok (.ifCond .ne 7, 3) := by decide +kernel
theorem d_X6_enters_30 : decode cX6_enters 30 = .ok (.iconst 1, 1) := by decide +kernel
theorem d_X6_enters_31 : decode cX6_enters 31 = .ok (.goto 4, 3) := by decide +kernel
theorem d_X6_enters_34 : decode cX6_enters 34 = .ok (.iconst 0, 1) := by decide +kernel
theorem d_X6_enters_35 : decode cX6_enters 35 = .ok (.ireturn, 1) := by decide +kernel
theorem d_X6_change_0 : decode cX6_change 0 = .ok (.iconst 1, 1) := by decide +kernel
theorem d_X6_change_1 : decode cX6_change 1 = .ok (.istore_n 3, 1) := by decide +kernel
theorem d_X6_change_2 : decode cX6_change 2 = .ok (.iload_n 3, 1) := by decide +kernel
theorem d_X6_change_3 : decode cX6_change 3 = .ok (.aload_n 0, 1) := by decide +kernel
theorem d_X6_change_4 : decode cX6_change 4 = .ok (.getfield 15, 3) := by decide +kernel
theorem d_X6_change_7 : decode cX6_change 7 = .ok (.invokevirtual 19, 3) := by decide +kernel
theorem d_X6_change_10 : decode cX6_change 10 = .ok (.if_icmp .gt 28, 3) := by decide +kernel
theorem d_X6_change_13 : decode cX6_change 13 = .ok (.aload_n 0, 1) := by decide +kernel
theorem d_X6_change_14 : decode cX6_change 14 = .ok (.iload_n 1, 1) := by decide +kernel
theorem d_X6_change_15 : decode cX6_change 15 = .ok (.iload_n 3, 1) := by decide +kernel
theorem d_X6_change_16 : decode cX6_change 16 = .ok (.invokevirtual 43, 3) := by decide +kernel
theorem d_X6_change_19 : decode cX6_change 19 = .ok (.ifCond .eq 13, 3) := by decide +kernel
theorem d_X6_change_22 : decode cX6_change 22 = .ok (.aload_n 0, 1) := by decide +kernel
theorem d_X6_change_23 : decode cX6_change 23 = .ok (.getfield 9, 3) := by decide +kernel
theorem d_X6_change_26 : decode cX6_change 26 = .ok (.iload_n 3, 1) := by decide +kernel
theorem d_X6_change_27 : decode cX6_change 27 = .ok (.dup2, 1) := by decide +kernel
theorem d_X6_change_28 : decode cX6_change 28 = .ok (.iaload, 1) := by decide +kernel
theorem d_X6_change_29 : decode cX6_change 29 = .ok (.iload_n 2, 1) := by decide +kernel
theorem d_X6_change_30 : decode cX6_change 30 = .ok (.iadd, 1) := by decide +kernel
theorem d_X6_change_31 : decode cX6_change 31 = .ok (.iastore, 1) := by decide +kernel
theorem d_X6_change_32 : decode cX6_change 32 = .ok (.iinc 3 1, 3) := by decide +kernel
theorem d_X6_change_35 : decode cX6_change 35 = .ok (.goto (-33), 3) := by decide +kernel
theorem d_X6_change_38 : decode cX6_change 38 = .ok (.return_, 1) := by decide +kernel
theorem d_X6_countFrom_0 : decode cX6_countFrom 0 = .ok (.iconst 0, 1) := by decide +kernel
theorem d_X6_countFrom_1 : decode cX6_countFrom 1 = .ok (.istore_n 2, 1) := by decide +kernel
theorem d_X6_countFrom_2 : decode cX6_countFrom 2 = .ok (.iload_n 2, 1) := by decide +kernel
theorem d_X6_countFrom_3 : decode cX6_countFrom 3 = .ok (.aload_n 0, 1) := by decide +kernel
theorem d_X6_countFrom_4 : decode cX6_countFrom 4 = .ok (.getfield 15, 3) := by decide +kernel
theorem d_X6_countFrom_7 : decode cX6_countFrom 7 = .ok (.invokevirtual 19, 3) := by decide +kernel
theorem d_X6_countFrom_10 : decode cX6_countFrom 10 = .ok (.if_icmp .gt 16, 3) := by decide +kernel
theorem d_X6_countFrom_13 : decode cX6_countFrom 13 = .ok (.aload_n 0, 1) := by decide +kernel
theorem d_X6_countFrom_14 : decode cX6_countFrom 14 = .ok (.getfield 9, 3) := by decide +kernel
theorem d_X6_countFrom_17 : decode cX6_countFrom 17 = .ok (.iload_n 2, 1) := by decide +kernel
theorem d_X6_countFrom_18 : decode cX6_countFrom 18 = .ok (.iconst 0, 1) := by decide +kernel
theorem d_X6_countFrom_19 : decode cX6_countFrom 19 = .ok (.iastore, 1) := by decide +kernel
theorem d_X6_countFrom_20 : decode cX6_countFrom 20 = .ok (.iinc 2 1, 3) := by decide +kernel
theorem d_X6_countFrom_23 : decode cX6_countFrom 23 = .ok (.goto (-21), 3) := by decide +kernel
theorem d_X6_countFrom_26 : decode cX6_countFrom 26 = .ok (.iconst 0, 1) := by decide +kernel
theorem d_X6_countFrom_27 : decode cX6_countFrom 27 = .ok (.istore_n 2, 1) := by decide +kernel
theorem d_X6_countFrom_28 : decode cX6_countFrom 28 = .ok (.iload_n 2, 1) := by decide +kernel
theorem d_X6_countFrom_29 : decode cX6_countFrom 29 = .ok (.aload_n 0, 1) := by decide +kernel
theorem d_X6_countFrom_30 : decode cX6_countFrom 30 = .ok (.getfield 15, 3) := by decide +kernel
theorem d_X6_countFrom_33 : decode cX6_countFrom 33 = .ok (.getfield 25, 3) := by decide +kernel
theorem d_X6_countFrom_36 : decode cX6_countFrom 36 = .ok (.if_icmp .ge 26, 3) := by decide +kernel
theorem d_X6_countFrom_39 : decode cX6_countFrom 39 = .ok (.aload_n 0, 1) := by decide +kernel
theorem d_X6_countFrom_40 : decode cX6_countFrom 40 = .ok (.getfield 15, 3) := by decide +kernel
theorem d_X6_countFrom_43 : decode cX6_countFrom 43 = .ok (.iload_n 2, 1) := by decide +kernel
theorem d_X6_countFrom_44 : decode cX6_countFrom 44 = .ok (.invokevirtual 29, 3) := by decide +kernel
theorem d_X6_countFrom_47 : decode cX6_countFrom 47 = .ok (.ifCond .eq 9, 3) := by decide +kernel
theorem d_X6_countFrom_50 : decode cX6_countFrom 50 = .ok (.aload_n 0, 1) := by decide +kernel
theorem d_X6_countFrom_51 : decode cX6_countFrom 51 = .ok (.iload_n 2, 1) := by decide +kernel
theorem d_X6_countFrom_52 : decode cX6_countFrom 52 = .ok (.iconst 1, 1) := by decide +kernel
theorem d_X6_countFrom_53 : decode cX6_countFrom 53 = .ok (.invokevirtual 33, 3) := by decide +kernel
theorem d_X6_countFrom_56 : decode cX6_countFrom 56 = .ok (.iinc 2 1, 3) := by decide +kernel
theorem d_X6_countFrom_59 : decode cX6_countFrom 59 = .ok (.goto (-31), 3) := by decide +kernel
theorem d_X6_countFrom_62 : decode cX6_countFrom 62 = .ok (.bipush 24, 2) := by decide +kernel
theorem d_X6_countFrom_64 : decode cX6_countFrom 64 = .ok (.istore_n 2, 1) := by decide +kernel
theorem d_X6_countFrom_65 : decode cX6_countFrom 65 = .ok (.iconst 1, 1) := by decide +kernel
theorem d_X6_countFrom_66 : decode cX6_countFrom 66 = .ok (.istore_n 3, 1) := by decide +kernel
theorem d_X6_countFrom_67 : decode cX6_countFrom 67 = .ok (.iload_n 3, 1) := by decide +kernel
theorem d_X6_countFrom_68 : decode cX6_countFrom 68 = .ok (.aload_n 0, 1) := by decide +kernel
theorem d_X6_countFrom_69 : decode cX6_countFrom 69 = .ok (.getfield 15, 3) := by decide +kernel
theorem d_X6_countFrom_72 : decode cX6_countFrom 72 = .ok (.invokevirtual 19, 3) := by decide +kernel
theorem d_X6_countFrom_75 : decode cX6_countFrom 75 = .ok (.if_icmp .gt 28, 3) := by decide +kernel
theorem d_X6_countFrom_78 : decode cX6_countFrom 78 = .ok (.iload_n 3, 1) := by decide +kernel
theorem d_X6_countFrom_79 : decode cX6_countFrom 79 = .ok (.iload_n 1, 1) := by decide +kernel
theorem d_X6_countFrom_80 : decode cX6_countFrom 80 = .ok (.ishr, 1) := by decide +kernel
theorem d_X6_countFrom_81 : decode cX6_countFrom 81 = .ok (.iconst 1, 1) := by decide +kernel
theorem d_X6_countFrom_82 : decode cX6_countFrom 82 = .ok (.iand, 1) := by decide +kernel
theorem d_X6_countFrom_83 : decode cX6_countFrom 83 = .ok (.ifCond .ne 14, 3) := by decide +kernel
theorem d_X6_countFrom_86 : decode cX6_countFrom 86 = .ok (.iload_n 2, 1) := by decide +kernel
theorem d_X6_countFrom_87 : decode cX6_countFrom 87 = .ok (.aload_n 0, 1) := by decide +kernel
theorem d_X6_countFrom_88 : decode cX6_countFrom 88 = .ok (.getfield 9, 3) := by decide +kernel
theorem d_X6_countFrom_91 : decode cX6_countFrom 91 = .ok (.iload_n 3, 1) := by decide +kernel
theorem d_X6_countFrom_92 : decode cX6_countFrom 92 = .ok (.iaload, 1) := by decide +kernel
theorem d_X6_countFrom_93 : decode cX6_countFrom 93 = .ok (.invokestatic 37, 3) := by decide +kernel
theorem d_X6_countFrom_96 : decode cX6_countFrom 96 = .ok (.istore_n 2, 1) := by decide +kernel
theorem d_X6_countFrom_97 : decode cX6_countFrom 97 = .ok (.iinc 3 1, 3) := by decide +kernel
theorem d_X6_countFrom_100 : decode cX6_countFrom 100 = .ok (.goto (-33), 3) := by decide +kernel
theorem d_X6_countFrom_103 : decode cX6_countFrom 103 = .ok (.iload_n 2, 1) := by decide +kernel
theorem d_X6_countFrom_104 : decode cX6_countFrom 104 = .ok (.ireturn, 1) := by decide +kernel
theorem d_X11_rooted_0 : decode cX11_rooted 0 = .ok (.aload_n 0, 1) := by decide +kernel
theorem d_X11_rooted_1 : decode cX11_rooted 1 = .ok (.getfield 10, 3) := by decide +kernel
theorem d_X11_rooted_4 : decode cX11_rooted 4 = .ok (.getfield 184, 3) := by decide +kernel
theorem d_X11_rooted_7 : decode cX11_rooted 7 = .ok (.iconst 2, 1) := by decide +kernel
theorem d_X11_rooted_8 : decode cX11_rooted 8 = .ok (.if_icmp .lt 18, 3) := by decide +kernel
theorem d_X11_rooted_11 : decode cX11_rooted 11 = .ok (.iload_n 1, 1) := by decide +kernel
theorem d_X11_rooted_12 : decode cX11_rooted 12 = .ok (.ifCond .lt 14, 3) := by decide +kernel
theorem d_X11_rooted_15 : decode cX11_rooted 15 = .ok (.iload_n 1, 1) := by decide +kernel
theorem d_X11_rooted_16 : decode cX11_rooted 16 = .ok (.aload_n 0, 1) := by decide +kernel
theorem d_X11_rooted_17 : decode cX11_rooted 17 = .ok (.getfield 10, 3) := by decide +kernel
theorem d_X11_rooted_20 : decode cX11_rooted 20 = .ok (.getfield 184, 3) := by decide +kernel
theorem d_X11_rooted_23 : decode cX11_rooted 23 = .ok (.if_icmp .lt 5, 3) := by decide +kernel
theorem d_X11_rooted_26 : decode cX11_rooted 26 = .ok (.iconst (-1), 1) := by decide +kernel
theorem d_X11_rooted_27 : decode cX11_rooted 27 = .ok (.ireturn, 1) := by decide +kernel
theorem d_X11_rooted_28 : decode cX11_rooted 28 = .ok (.aload_n 0, 1) := by decide +kernel
theorem d_X11_rooted_29 : decode cX11_rooted 29 = .ok (.getfield 74, 3) := by decide +kernel
theorem d_X11_rooted_32 : decode cX11_rooted 32 = .ok (.iload_n 1, 1) := by decide +kernel
theorem d_X11_rooted_33 : decode cX11_rooted 33 = .ok (.invokevirtual 300, 3) := by decide +kernel
theorem d_X11_rooted_36 : decode cX11_rooted 36 = .ok (.ireturn, 1) := by decide +kernel
theorem d_X6_canGo_0 : decode cX6_canGo 0 = .ok (.iconst 1, 1) := by decide +kernel
theorem d_X6_canGo_1 : decode cX6_canGo 1 = .ok (.istore 4, 2) := by decide +kernel
theorem d_X6_canGo_3 : decode cX6_canGo 3 = .ok (.iload 4, 2) := by decide +kernel
theorem d_X6_canGo_5 : decode cX6_canGo 5 = .ok (.aload_n 0, 1) := by decide +kernel
theorem d_X6_canGo_6 : decode cX6_canGo 6 = .ok (.getfield 15, 3) := by decide +kernel
theorem d_X6_canGo_9 : decode cX6_canGo 9 = .ok (.invokevirtual 19, 3) := by decide +kernel
theorem d_X6_canGo_12 : decode cX6_canGo 12 = .ok (.if_icmp .gt 41, 3) := by decide +kernel
theorem d_X6_canGo_15 : decode cX6_canGo 15 = .ok (.iload 4, 2) := by decide +kernel
theorem d_X6_canGo_17 : decode cX6_canGo 17 = .ok (.iload_n 1, 1) := by decide +kernel
theorem d_X6_canGo_18 : decode cX6_canGo 18 = .ok (.ishr, 1) := by decide +kernel
theorem d_X6_canGo_19 : decode cX6_canGo 19 = .ok (.iconst 1, 1) := by decide +kernel
theorem d_X6_canGo_20 : decode cX6_canGo 20 = .ok (.iand, 1) := by decide +kernel
theorem d_X6_canGo_21 : decode cX6_canGo 21 = .ok (.ifCond .ne 26, 3) := by decide +kernel
theorem d_X6_canGo_24 : decode cX6_canGo 24 = .ok (.aload_n 0, 1) := by decide +kernel
theorem d_X6_canGo_25 : decode cX6_canGo 25 = .ok (.iload_n 2, 1) := by decide +kernel
theorem d_X6_canGo_26 : decode cX6_canGo 26 = .ok (.iload 4, 2) := by decide +kernel
theorem d_X6_canGo_28 : decode cX6_canGo 28 = .ok (.invokevirtual 43, 3) := by decide +kernel
theorem d_X6_canGo_31 : decode cX6_canGo 31 = .ok (.ifCond .eq 16, 3) := by decide +kernel
theorem d_X6_canGo_34 : decode cX6_canGo 34 = .ok (.aload_n 0, 1) := by decide +kernel
theorem d_X6_canGo_35 : decode cX6_canGo 35 = .ok (.getfield 9, 3) := by decide +kernel
theorem d_X6_canGo_38 : decode cX6_canGo 38 = .ok (.iload 4, 2) := by decide +kernel
theorem d_X6_canGo_40 : decode cX6_canGo 40 = .ok (.iaload, 1) := by decide +kernel
theorem d_X6_canGo_41 : decode cX6_canGo 41 = .ok (.iload_n 3, 1) := by decide +kernel
theorem d_X6_canGo_42 : decode cX6_canGo 42 = .ok (.if_icmp .gt 5, 3) := by decide +kernel
theorem d_X6_canGo_45 : decode cX6_canGo 45 = .ok (.iconst 0, 1) := by decide +kernel
theorem d_X6_canGo_46 : decode cX6_canGo 46 = .ok (.ireturn, 1) := by decide +kernel
theorem d_X6_canGo_47 : decode cX6_canGo 47 = .ok (.iinc 4 1, 3) := by decide +kernel
theorem d_X6_canGo_50 : decode cX6_canGo 50 = .ok (.goto (-47), 3) := by decide +kernel
theorem d_X6_canGo_53 : decode cX6_canGo 53 = .ok (.iconst 1, 1) := by decide +kernel
theorem d_X6_canGo_54 : decode cX6_canGo 54 = .ok (.ireturn, 1) := by decide +kernel
theorem d_X6_firstFit_0 : decode cX6_firstFit 0 = .ok (.iconst 0, 1) := by decide +kernel
theorem d_X6_firstFit_1 : decode cX6_firstFit 1 = .ok (.istore 5, 2) := by decide +kernel
theorem d_X6_firstFit_3 : decode cX6_firstFit 3 = .ok (.iload 5, 2) := by decide +kernel
theorem d_X6_firstFit_5 : decode cX6_firstFit 5 = .ok (.aload_n 0, 1) := by decide +kernel
theorem d_X6_firstFit_6 : decode cX6_firstFit 6 = .ok (.getfield 15, 3) := by decide +kernel
theorem d_X6_firstFit_9 : decode cX6_firstFit 9 = .ok (.getfield 25, 3) := by decide +kernel
theorem d_X6_firstFit_12 : decode cX6_firstFit 12 = .ok (.if_icmp .ge 65, 3) := by decide +kernel
theorem d_X6_firstFit_15 : decode cX6_firstFit 15 = .ok (.iload_n 3, 1) := by decide +kernel
theorem d_X6_firstFit_16 : decode cX6_firstFit 16 = .ok (.iload 5, 2) := by decide +kernel
theorem d_X6_firstFit_18 : decode cX6_firstFit 18 = .ok (.ishr, 1) := by decide +kernel
theorem d_X6_firstFit_19 : decode cX6_firstFit 19 = .ok (.iconst 1, 1) := by decide +kernel
theorem d_X6_firstFit_20 : decode cX6_firstFit 20 = .ok (.iand, 1) := by decide +kernel
theorem d_X6_firstFit_21 : decode cX6_firstFit 21 = .ok (.ifCond .eq 27, 3) := by decide +kernel
theorem d_X6_firstFit_24 : decode cX6_firstFit 24 = .ok (.aload_n 0, 1) := by decide +kernel
theorem d_X6_firstFit_25 : decode cX6_firstFit 25 = .ok (.iload 5, 2) := by decide +kernel
theorem d_X6_firstFit_27 : decode cX6_firstFit 27 = .ok (.aload_n 0, 1) := by decide +kernel
theorem d_X6_firstFit_28 : decode cX6_firstFit 28 = .ok (.getfield 15, 3) := by decide +kernel
theorem d_X6_firstFit_31 : decode cX6_firstFit 31 = .ok (.invokevirtual 19, 3) := by decide +kernel
theorem d_X6_firstFit_34 : decode cX6_firstFit 34 = .ok (.iload_n 2, 1) := by decide +kernel
theorem d_X6_firstFit_35 : decode cX6_firstFit 35 = .ok (.iconst (-1), 1) := by decide +kernel
theorem d_X6_firstFit_36 : decode cX6_firstFit 36 = .ok (.ixor, 1) := by decide +kernel
theorem d_X6_firstFit_37 : decode cX6_firstFit 37 = .ok (.iand, 1) := by decide +kernel
theorem d_X6_firstFit_38 : decode cX6_firstFit 38 = .ok (.invokevirtual 43, 3) := by decide +kernel
theorem d_X6_firstFit_41 : decode cX6_firstFit 41 = .ok (.ifCond .eq 7, 3) := by decide +kernel
theorem d_X6_firstFit_44 : decode cX6_firstFit 44 = .ok (.iconst 1, 1) := by decide +kernel
theorem d_X6_firstFit_45 : decode cX6_firstFit 45 = .ok (.goto 4, 3) := by decide +kernel
theorem d_X6_firstFit_48 : decode cX6_firstFit 48 = .ok (.iconst 0, 1) := by decide +kernel
theorem d_X6_firstFit_49 : decode cX6_firstFit 49 = .ok (.istore 6, 2) := by decide +kernel
theorem d_X6_firstFit_51 : decode cX6_firstFit 51 = .ok (.iload 6, 2) := by decide +kernel
theorem d_X6_firstFit_53 : decode cX6_firstFit 53 = .ok (.ifCond .eq 18, 3) := by decide +kernel
theorem d_X6_firstFit_56 : decode cX6_firstFit 56 = .ok (.aload_n 0, 1) := by decide +kernel
theorem d_X6_firstFit_57 : decode cX6_firstFit 57 = .ok (.iload_n 1, 1) := by decide +kernel
theorem d_X6_firstFit_58 : decode cX6_firstFit 58 = .ok (.iload 5, 2) := by decide +kernel
theorem d_X6_firstFit_60 : decode cX6_firstFit 60 = .ok (.iload 4, 2) := by decide +kernel
theorem d_X6_firstFit_62 : decode cX6_firstFit 62 = .ok (.invokevirtual 71, 3) := by decide +kernel
theorem d_X6_firstFit_65 : decode cX6_firstFit 65 = .ok (.ifCond .eq 6, 3) := by decide +kernel
theorem d_X6_firstFit_68 : decode cX6_firstFit 68 = .ok (.iload 5, 2) := by decide +kernel
theorem d_X6_firstFit_70 : decode cX6_firstFit 70 = .ok (.ireturn, 1) := by decide +kernel
theorem d_X6_firstFit_71 : decode cX6_firstFit 71 = .ok (.iinc 5 1, 3) := by decide +kernel
theorem d_X6_firstFit_74 : decode cX6_firstFit 74 = .ok (.goto (-71), 3) := by decide +kernel
theorem d_X6_firstFit_77 : decode cX6_firstFit 77 = .ok (.iconst (-1), 1) := by decide +kernel
theorem d_X6_firstFit_78 : decode cX6_firstFit 78 = .ok (.ireturn, 1) := by decide +kernel
theorem d_X6_grow_0 : decode cX6_grow 0 = .ok (.iconst 1, 1) := by decide +kernel
theorem d_X6_grow_1 : decode cX6_grow 1 = .ok (.iload_n 1, 1) := by decide +kernel
theorem d_X6_grow_2 : decode cX6_grow 2 = .ok (.ishl, 1) := by decide +kernel
theorem d_X6_grow_3 : decode cX6_grow 3 = .ok (.istore 4, 2) := by decide +kernel
theorem d_X6_grow_5 : decode cX6_grow 5 = .ok (.iconst 0, 1) := by decide +kernel
theorem d_X6_grow_6 : decode cX6_grow 6 = .ok (.istore 5, 2) := by decide +kernel
theorem d_X6_grow_8 : decode cX6_grow 8 = .ok (.iconst 1, 1) := by decide +kernel
theorem d_X6_grow_9 : decode cX6_grow 9 = .ok (.istore 6, 2) := by decide +kernel
theorem d_X6_grow_11 : decode cX6_grow 11 = .ok (.iload 6, 2) := by decide +kernel
theorem d_X6_grow_13 : decode cX6_grow 13 = .ok (.aload_n 0, 1) := by decide +kernel
theorem d_X6_grow_14 : decode cX6_grow 14 = .ok (.getfield 15, 3) := by decide +kernel
theorem d_X6_grow_17 : decode cX6_grow 17 = .ok (.getfield 64, 3) := by decide +kernel
theorem d_X6_grow_20 : decode cX6_grow 20 = .ok (.if_icmp .ge 61, 3) := by decide +kernel
theorem d_X6_grow_23 : decode cX6_grow 23 = .ok (.aload_n 0, 1) := by decide +kernel
theorem d_X6_grow_24 : decode cX6_grow 24 = .ok (.iload_n 1, 1) := by decide +kernel
theorem d_X6_grow_25 : decode cX6_grow 25 = .ok (.iload 4, 2) := by decide +kernel
theorem d_X6_grow_27 : decode cX6_grow 27 = .ok (.iload_n 2, 1) := by decide +kernel
theorem d_X6_grow_28 : decode cX6_grow 28 = .ok (.iload_n 3, 1) := by decide +kernel
theorem d_X6_grow_29 : decode cX6_grow 29 = .ok (.invokevirtual 67, 3) := by decide +kernel
theorem d_X6_grow_32 : decode cX6_grow 32 = .ok (.istore 7, 2) := by decide +kernel
theorem d_X6_grow_34 : decode cX6_grow 34 = .ok (.iload 7, 2) := by decide +kernel
theorem d_X6_grow_36 : decode cX6_grow 36 = .ok (.iconst (-1), 1) := by decide +kernel
theorem d_X6_grow_37 : decode cX6_grow 37 = .ok (.if_icmp .ne 6, 3) := by decide +kernel
theorem d_X6_grow_40 : decode cX6_grow 40 = .ok (.goto 41, 3) := by decide +kernel
theorem d_X6_grow_43 : decode cX6_grow 43 = .ok (.aload_n 0, 1) := by decide +kernel
theorem d_X6_grow_44 : decode cX6_grow 44 = .ok (.iload 7, 2) := by decide +kernel
theorem d_X6_grow_46 : decode cX6_grow 46 = .ok (.iconst (-1), 1) := by decide +kernel
theorem d_X6_grow_47 : decode cX6_grow 47 = .ok (.invokevirtual 33, 3) := by decide +kernel
theorem d_X6_grow_50 : decode cX6_grow 50 = .ok (.iload 4, 2) := by decide +kernel
theorem d_X6_grow_52 : decode cX6_grow 52 = .ok (.iconst 1, 1) := by decide +kernel
theorem d_X6_grow_53 : decode cX6_grow 53 = .ok (.aload_n 0, 1) := by decide +kernel
theorem d_X6_grow_54 : decode cX6_grow 54 = .ok (.getfield 15, 3) := by decide +kernel
theorem d_X6_grow_57 : decode cX6_grow 57 = .ok (.iload 7, 2) := by decide +kernel
theorem d_X6_grow_59 : decode cX6_grow 59 = .ok (.invokevirtual 47, 3) := by decide +kernel
theorem d_X6_grow_62 : decode cX6_grow 62 = .ok (.ishl, 1) := by decide +kernel
theorem d_X6_grow_63 : decode cX6_grow 63 = .ok (.ior, 1) := by decide +kernel
theorem d_X6_grow_64 : decode cX6_grow 64 = .ok (.istore 4, 2) := by decide +kernel
theorem d_X6_grow_66 : decode cX6_grow 66 = .ok (.iload 5, 2) := by decide +kernel
theorem d_X6_grow_68 : decode cX6_grow 68 = .ok (.iconst 1, 1) := by decide +kernel
theorem d_X6_grow_69 : decode cX6_grow 69 = .ok (.iload 7, 2) := by decide +kernel
theorem d_X6_grow_71 : decode cX6_grow 71 = .ok (.ishl, 1) := by decide +kernel
theorem d_X6_grow_72 : decode cX6_grow 72 = .ok (.ior, 1) := by decide +kernel
theorem d_X6_grow_73 : decode cX6_grow 73 = .ok (.istore 5, 2) := by decide +kernel
theorem d_X6_grow_75 : decode cX6_grow 75 = .ok (.iinc 6 1, 3) := by decide +kernel
theorem d_X6_grow_78 : decode cX6_grow 78 = .ok (.goto (-67), 3) := by decide +kernel
theorem d_X6_grow_81 : decode cX6_grow 81 = .ok (.iload 5, 2) := by decide +kernel
theorem d_X6_grow_83 : decode cX6_grow 83 = .ok (.ireturn, 1) := by decide +kernel
theorem d_X6_treeSet_0 : decode cX6_treeSet 0 = .ok (.aload_n 0, 1) := by decide +kernel
theorem d_X6_treeSet_1 : decode cX6_treeSet 1 = .ok (.iload_n 1, 1) := by decide +kernel
theorem d_X6_treeSet_2 : decode cX6_treeSet 2 = .ok (.invokevirtual 54, 3) := by decide +kernel
theorem d_X6_treeSet_5 : decode cX6_treeSet 5 = .ok (.istore_n 3, 1) := by decide +kernel
theorem d_X6_treeSet_6 : decode cX6_treeSet 6 = .ok (.iload_n 2, 1) := by decide +kernel
theorem d_X6_treeSet_7 : decode cX6_treeSet 7 = .ok (.ifCond .lt 8, 3) := by decide +kernel
theorem d_X6_treeSet_10 : decode cX6_treeSet 10 = .ok (.iload_n 2, 1) := by decide +kernel
theorem d_X6_treeSet_11 : decode cX6_treeSet 11 = .ok (.iload_n 3, 1) := by decide +kernel
theorem d_X6_treeSet_12 : decode cX6_treeSet 12 = .ok (.if_icmp .lt 5, 3) := by decide +kernel
theorem d_X6_treeSet_15 : decode cX6_treeSet 15 = .ok (.iconst (-1), 1) := by decide +kernel
theorem d_X6_treeSet_16 : decode cX6_treeSet 16 = .ok (.ireturn, 1) := by decide +kernel
theorem d_X6_treeSet_17 : decode cX6_treeSet 17 = .ok (.aload_n 0, 1) := by decide +kernel
theorem d_X6_treeSet_18 : decode cX6_treeSet 18 = .ok (.getfield 15, 3) := by decide +kernel
theorem d_X6_treeSet_21 : decode cX6_treeSet 21 = .ok (.invokevirtual 57, 3) := by decide +kernel
theorem d_X6_treeSet_24 : decode cX6_treeSet 24 = .ok (.istore 4, 2) := by decide +kernel
theorem d_X6_treeSet_26 : decode cX6_treeSet 26 = .ok (.iconst 0, 1) := by decide +kernel
theorem d_X6_treeSet_27 : decode cX6_treeSet 27 = .ok (.istore 5, 2) := by decide +kernel
theorem d_X6_treeSet_29 : decode cX6_treeSet 29 = .ok (.iconst 0, 1) := by decide +kernel
theorem d_X6_treeSet_30 : decode cX6_treeSet 30 = .ok (.istore 6, 2) := by decide +kernel
theorem d_X6_treeSet_32 : decode cX6_treeSet 32 = .ok (.iload 6, 2) := by decide +kernel
theorem d_X6_treeSet_34 : decode cX6_treeSet 34 = .ok (.iload_n 2, 1) := by decide +kernel
theorem d_X6_treeSet_35 : decode cX6_treeSet 35 = .ok (.if_icmp .gt 33, 3) := by decide +kernel
theorem d_X6_treeSet_38 : decode cX6_treeSet 38 = .ok (.iload 4, 2) := by decide +kernel
theorem d_X6_treeSet_40 : decode cX6_treeSet 40 = .ok (.iload 5, 2) := by decide +kernel
theorem d_X6_treeSet_42 : decode cX6_treeSet 42 = .ok (.iconst (-1), 1) := by decide +kernel
theorem d_X6_treeSet_43 : decode cX6_treeSet 43 = .ok (.ixor, 1) := by decide +kernel
theorem d_X6_treeSet_44 : decode cX6_treeSet 44 = .ok (.iand, 1) := by decide +kernel
theorem d_X6_treeSet_45 : decode cX6_treeSet 45 = .ok (.istore 4, 2) := by decide +kernel
theorem d_X6_treeSet_47 : decode cX6_treeSet 47 = .ok (.aload_n 0, 1) := by decide +kernel
theorem d_X6_treeSet_48 : decode cX6_treeSet 48 = .ok (.iload_n 1, 1) := by decide +kernel
theorem d_X6_treeSet_49 : decode cX6_treeSet 49 = .ok (.iload 4, 2) := by decide +kernel
theorem d_X6_treeSet_51 : decode cX6_treeSet 51 = .ok (.iload_n 3, 1) := by decide +kernel
theorem d_X6_treeSet_52 : decode cX6_treeSet 52 = .ok (.iload 6, 2) := by decide +kernel
theorem d_X6_treeSet_54 : decode cX6_treeSet 54 = .ok (.isub, 1) := by decide +kernel
theorem d_X6_treeSet_55 : decode cX6_treeSet 55 = .ok (.iconst 1, 1) := by decide +kernel
theorem d_X6_treeSet_56 : decode cX6_treeSet 56 = .ok (.isub, 1) := by decide +kernel
theorem d_X6_treeSet_57 : decode cX6_treeSet 57 = .ok (.invokevirtual 60, 3) := by decide +kernel
theorem d_X6_treeSet_60 : decode cX6_treeSet 60 = .ok (.istore 5, 2) := by decide +kernel
theorem d_X6_treeSet_62 : decode cX6_treeSet 62 = .ok (.iinc 6 1, 3) := by decide +kernel
theorem d_X6_treeSet_65 : decode cX6_treeSet 65 = .ok (.goto (-33), 3) := by decide +kernel
theorem d_X6_treeSet_68 : decode cX6_treeSet 68 = .ok (.iload 5, 2) := by decide +kernel
theorem d_X6_treeSet_70 : decode cX6_treeSet 70 = .ok (.ireturn, 1) := by decide +kernel
theorem d_X11_outTree_0 : decode cX11_outTree 0 = .ok (.aload_n 0, 1) := by decide +kernel
theorem d_X11_outTree_1 : decode cX11_outTree 1 = .ok (.getfield 10, 3) := by decide +kernel
theorem d_X11_outTree_4 : decode cX11_outTree 4 = .ok (.getfield 184, 3) := by decide +kernel
theorem d_X11_outTree_7 : decode cX11_outTree 7 = .ok (.iconst 2, 1) := by decide +kernel
theorem d_X11_outTree_8 : decode cX11_outTree 8 = .ok (.if_icmp .lt 18, 3) := by decide +kernel
theorem d_X11_outTree_11 : decode cX11_outTree 11 = .ok (.iload_n 1, 1) := by decide +kernel
theorem d_X11_outTree_12 : decode cX11_outTree 12 = .ok (.ifCond .lt 14, 3) := by decide +kernel
theorem d_X11_outTree_15 : decode cX11_outTree 15 = .ok (.iload_n 1, 1) := by decide +kernel
theorem d_X11_outTree_16 : decode cX11_outTree 16 = .ok (.aload_n 0, 1) := by decide +kernel
theorem d_X11_outTree_17 : decode cX11_outTree 17 = .ok (.getfield 10, 3) := by decide +kernel
theorem d_X11_outTree_20 : decode cX11_outTree 20 = .ok (.getfield 184, 3) := by decide +kernel
theorem d_X11_outTree_23 : decode cX11_outTree 23 = .ok (.if_icmp .lt 5, 3) := by decide +kernel
theorem d_X11_outTree_26 : decode cX11_outTree 26 = .ok (.iconst (-1), 1) := by decide +kernel
theorem d_X11_outTree_27 : decode cX11_outTree 27 = .ok (.ireturn, 1) := by decide +kernel
theorem d_X11_outTree_28 : decode cX11_outTree 28 = .ok (.aload_n 0, 1) := by decide +kernel
theorem d_X11_outTree_29 : decode cX11_outTree 29 = .ok (.getfield 74, 3) := by decide +kernel
theorem d_X11_outTree_32 : decode cX11_outTree 32 = .ok (.iload_n 1, 1) := by decide +kernel
theorem d_X11_outTree_33 : decode cX11_outTree 33 = .ok (.iload_n 2, 1) := by decide +kernel
theorem d_X11_outTree_34 : decode cX11_outTree 34 = .ok (.invokevirtual 303, 3) := by decide +kernel
theorem d_X11_outTree_37 : decode cX11_outTree 37 = .ok (.ireturn, 1) := by decide +kernel
theorem d_X8_leastFull_0 : decode cX8_leastFull 0 = .ok (.aload_n 0, 1) := by decide +kernel
theorem d_X8_leastFull_1 : decode cX8_leastFull 1 = .ok (.getfield 21, 3) := by decide +kernel
theorem d_X8_leastFull_4 : decode cX8_leastFull 4 = .ok (.iload_n 1, 1) := by decide +kernel
theorem d_X8_leastFull_5 : decode cX8_leastFull 5 = .ok (.invokevirtual 85, 3) := by decide +kernel
theorem d_X8_leastFull_8 : decode cX8_leastFull 8 = .ok (.istore_n 3, 1) := by decide +kernel
theorem d_X8_leastFull_9 : decode cX8_leastFull 9 = .ok (.iconst 1, 1) := by decide +kernel
theorem d_X8_leastFull_10 : decode cX8_leastFull 10 = .ok (.aload_n 0, 1) := by decide +kernel
theorem d_X8_leastFull_11 : decode cX8_leastFull 11 = .ok (.getfield 21, 3) := by decide +kernel
theorem d_X8_leastFull_14 : decode cX8_leastFull 14 = .ok (.getfield 39, 3) := by decide +kernel
theorem d_X8_leastFull_17 : decode cX8_leastFull 17 = .ok (.ishl, 1) := by decide +kernel
theorem d_X8_leastFull_18 : decode cX8_leastFull 18 = .ok (.istore 4, 2) := by decide +kernel
theorem d_X8_leastFull_20 : decode cX8_leastFull 20 = .ok (.aload_n 0, 1) := by decide +kernel
theorem d_X8_leastFull_21 : decode cX8_leastFull 21 = .ok (.getfield 21, 3) := by decide +kernel
theorem d_X8_leastFull_24 : decode cX8_leastFull 24 = .ok (.invokevirtual 57, 3) := by decide +kernel
theorem d_X8_leastFull_27 : decode cX8_leastFull 27 = .ok (.istore 5, 2) := by decide +kernel
theorem d_X8_leastFull_29 : decode cX8_leastFull 29 = .ok (.iload_n 3, 1) := by decide +kernel
theorem d_X8_leastFull_30 : decode cX8_leastFull 30 = .ok (.istore 6, 2) := by decide +kernel
theorem d_X8_leastFull_32 : decode cX8_leastFull 32 = .ok (.iload 6, 2) := by decide +kernel
theorem d_X8_leastFull_34 : decode cX8_leastFull 34 = .ok (.iload 4, 2) := by decide +kernel
theorem d_X8_leastFull_36 : decode cX8_leastFull 36 = .ok (.if_icmp .ge 31, 3) := by decide +kernel
theorem d_X8_leastFull_39 : decode cX8_leastFull 39 = .ok (.aload_n 0, 1) := by decide +kernel
theorem d_X8_leastFull_40 : decode cX8_leastFull 40 = .ok (.iload 6, 2) := by decide +kernel
theorem d_X8_leastFull_42 : decode cX8_leastFull 42 = .ok (.iload_n 2, 1) := by decide +kernel
theorem d_X8_leastFull_43 : decode cX8_leastFull 43 = .ok (.invokevirtual 88, 3) := by decide +kernel
theorem d_X8_leastFull_46 : decode cX8_leastFull 46 = .ok (.ifCond .eq 10, 3) := by decide +kernel
theorem d_X8_leastFull_49 : decode cX8_leastFull 49 = .ok (.iload 5, 2) := by decide +kernel
theorem d_X8_leastFull_51 : decode cX8_leastFull 51 = .ok (.iload 6, 2) := by decide +kernel
theorem d_X8_leastFull_53 : decode cX8_leastFull 53 = .ok (.iand, 1) := by decide +kernel
theorem d_X8_leastFull_54 : decode cX8_leastFull 54 = .ok (.istore 5, 2) := by decide +kernel
theorem d_X8_leastFull_56 : decode cX8_leastFull 56 = .ok (.iload 6, 2) := by decide +kernel
theorem d_X8_leastFull_58 : decode cX8_leastFull 58 = .ok (.iconst 1, 1) := by decide +kernel
theorem d_X8_leastFull_59 : decode cX8_leastFull 59 = .ok (.iadd, 1) := by decide +kernel
theorem d_X8_leastFull_60 : decode cX8_leastFull 60 = .ok (.iload_n 3, 1) := by decide +kernel
theorem d_X8_leastFull_61 : decode cX8_leastFull 61 = .ok (.ior, 1) := by decide +kernel
theorem d_X8_leastFull_62 : decode cX8_leastFull 62 = .ok (.istore 6, 2) := by decide +kernel
theorem d_X8_leastFull_64 : decode cX8_leastFull 64 = .ok (.goto (-32), 3) := by decide +kernel
theorem d_X8_leastFull_67 : decode cX8_leastFull 67 = .ok (.iload 5, 2) := by decide +kernel
theorem d_X8_leastFull_69 : decode cX8_leastFull 69 = .ok (.ireturn, 1) := by decide +kernel
theorem d_X8_linesIn_0 : decode cX8_linesIn 0 = .ok (.iconst 0, 1) := by decide +kernel
theorem d_X8_linesIn_1 : decode cX8_linesIn 1 = .ok (.istore_n 2, 1) := by decide +kernel
theorem d_X8_linesIn_2 : decode cX8_linesIn 2 = .ok (.iconst 0, 1) := by decide +kernel
theorem d_X8_linesIn_3 : decode cX8_linesIn 3 = .ok (.istore_n 3, 1) := by decide +kernel
theorem d_X8_linesIn_4 : decode cX8_linesIn 4 = .ok (.iload_n 3, 1) := by decide +kernel
theorem d_X8_linesIn_5 : decode cX8_linesIn 5 = .ok (.aload_n 0, 1) := by decide +kernel
theorem d_X8_linesIn_6 : decode cX8_linesIn 6 = .ok (.getfield 21, 3) := by decide +kernel
theorem d_X8_linesIn_9 : decode cX8_linesIn 9 = .ok (.getfield 44, 3) := by decide +kernel
theorem d_X8_linesIn_12 : decode cX8_linesIn 12 = .ok (.if_icmp .ge 30, 3) := by decide +kernel
theorem d_X8_linesIn_15 : decode cX8_linesIn 15 = .ok (.aload_n 0, 1) := by decide +kernel
theorem d_X8_linesIn_16 : decode cX8_linesIn 16 = .ok (.getfield 21, 3) := by decide +kernel
theorem d_X8_linesIn_19 : decode cX8_linesIn 19 = .ok (.iload_n 3, 1) := by decide +kernel
theorem d_X8_linesIn_20 : decode cX8_linesIn 20 = .ok (.invokevirtual 85, 3) := by decide +kernel
theorem d_X8_linesIn_23 : decode cX8_linesIn 23 = .ok (.iload_n 1, 1) := by decide +kernel
theorem d_X8_linesIn_24 : decode cX8_linesIn 24 = .ok (.iconst (-1), 1) := by decide +kernel
theorem d_X8_linesIn_25 : decode cX8_linesIn 25 = .ok (.ixor, 1) := by decide +kernel
theorem d_X8_linesIn_26 : decode cX8_linesIn 26 = .ok (.iand, 1) := by decide +kernel
theorem d_X8_linesIn_27 : decode cX8_linesIn 27 = .ok (.ifCond .ne 9, 3) := by decide +kernel
theorem d_X8_linesIn_30 : decode cX8_linesIn 30 = .ok (.iload_n 2, 1) := by decide +kernel
theorem d_X8_linesIn_31 : decode cX8_linesIn 31 = .ok (.iconst 1, 1) := by decide +kernel
theorem d_X8_linesIn_32 : decode cX8_linesIn 32 = .ok (.iload_n 3, 1) := by decide +kernel
theorem d_X8_linesIn_33 : decode cX8_linesIn 33 = .ok (.ishl, 1) := by decide +kernel
theorem d_X8_linesIn_34 : decode cX8_linesIn 34 = .ok (.ior, 1) := by decide +kernel
theorem d_X8_linesIn_35 : decode cX8_linesIn 35 = .ok (.istore_n 2, 1) := by decide +kernel
theorem d_X8_linesIn_36 : decode cX8_linesIn 36 = .ok (.iinc 3 1, 3) := by decide +kernel
theorem d_X8_linesIn_39 : decode cX8_linesIn 39 = .ok (.goto (-35), 3) := by decide +kernel
theorem d_X8_linesIn_42 : decode cX8_linesIn 42 = .ok (.iload_n 2, 1) := by decide +kernel
theorem d_X8_linesIn_43 : decode cX8_linesIn 43 = .ok (.ireturn, 1) := by decide +kernel
theorem d_X8_vitalSet_0 : decode cX8_vitalSet 0 = .ok (.aload_n 0, 1) := by decide +kernel
theorem d_X8_vitalSet_1 : decode cX8_vitalSet 1 = .ok (.iload_n 1, 1) := by decide +kernel
theorem d_X8_vitalSet_2 : decode cX8_vitalSet 2 = .ok (.invokevirtual 82, 3) := by decide +kernel
theorem d_X8_vitalSet_5 : decode cX8_vitalSet 5 = .ok (.istore_n 2, 1) := by decide +kernel
theorem d_X8_vitalSet_6 : decode cX8_vitalSet 6 = .ok (.aload_n 0, 1) := by decide +kernel
theorem d_X8_vitalSet_7 : decode cX8_vitalSet 7 = .ok (.getfield 21, 3) := by decide +kernel
theorem d_X8_vitalSet_10 : decode cX8_vitalSet 10 = .ok (.invokevirtual 101, 3) := by decide +kernel
theorem d_X8_vitalSet_13 : decode cX8_vitalSet 13 = .ok (.iload_n 2, 1) := by decide +kernel
theorem d_X8_vitalSet_14 : decode cX8_vitalSet 14 = .ok (.iconst (-1), 1) := by decide +kernel
theorem d_X8_vitalSet_15 : decode cX8_vitalSet 15 = .ok (.ixor, 1) := by decide +kernel
theorem d_X8_vitalSet_16 : decode cX8_vitalSet 16 = .ok (.iand, 1) := by decide +kernel
theorem d_X8_vitalSet_17 : decode cX8_vitalSet 17 = .ok (.istore_n 3, 1) := by decide +kernel
theorem d_X8_vitalSet_18 : decode cX8_vitalSet 18 = .ok (.iload_n 2, 1) := by decide +kernel
theorem d_X8_vitalSet_19 : decode cX8_vitalSet 19 = .ok (.istore 4, 2) := by decide +kernel
theorem d_X8_vitalSet_21 : decode cX8_vitalSet 21 = .ok (.iconst 0, 1) := by decide +kernel
theorem d_X8_vitalSet_22 : decode cX8_vitalSet 22 = .ok (.istore 5, 2) := by decide +kernel
theorem d_X8_vitalSet_24 : decode cX8_vitalSet 24 = .ok (.iload 5, 2) := by decide +kernel
theorem d_X8_vitalSet_26 : decode cX8_vitalSet 26 = .ok (.aload_n 0, 1) := by decide +kernel
theorem d_X8_vitalSet_27 : decode cX8_vitalSet 27 = .ok (.getfield 21, 3) := by decide +kernel
theorem d_X8_vitalSet_30 : decode cX8_vitalSet 30 = .ok (.getfield 44, 3) := by decide +kernel
theorem d_X8_vitalSet_33 : decode cX8_vitalSet 33 = .ok (.if_icmp .ge 36, 3) := by decide +kernel
theorem d_X8_vitalSet_36 : decode cX8_vitalSet 36 = .ok (.iload_n 3, 1) := by decide +kernel
theorem d_X8_vitalSet_37 : decode cX8_vitalSet 37 = .ok (.iload 5, 2) := by decide +kernel
theorem d_X8_vitalSet_39 : decode cX8_vitalSet 39 = .ok (.ishr, 1) := by decide +kernel
theorem d_X8_vitalSet_40 : decode cX8_vitalSet 40 = .ok (.iconst 1, 1) := by decide +kernel
theorem d_X8_vitalSet_41 : decode cX8_vitalSet 41 = .ok (.iand, 1) := by decide +kernel
theorem d_X8_vitalSet_42 : decode cX8_vitalSet 42 = .ok (.ifCond .eq 21, 3) := by decide +kernel
theorem d_X8_vitalSet_45 : decode cX8_vitalSet 45 = .ok (.iload 4, 2) := by decide +kernel
theorem d_X8_vitalSet_47 : decode cX8_vitalSet 47 = .ok (.aload_n 0, 1) := by decide +kernel
theorem d_X8_vitalSet_48 : decode cX8_vitalSet 48 = .ok (.aload_n 0, 1) := by decide +kernel
theorem d_X8_vitalSet_49 : decode cX8_vitalSet 49 = .ok (.iload 5, 2) := by decide +kernel
theorem d_X8_vitalSet_51 : decode cX8_vitalSet 51 = .ok (.iload_n 1, 1) := by decide +kernel
theorem d_X8_vitalSet_52 : decode cX8_vitalSet 52 = .ok (.invokevirtual 104, 3) := by decide +kernel
theorem d_X8_vitalSet_55 : decode cX8_vitalSet 55 = .ok (.invokevirtual 107, 3) := by decide +kernel
theorem d_X8_vitalSet_58 : decode cX8_vitalSet 58 = .ok (.iconst (-1), 1) := by decide +kernel
theorem d_X8_vitalSet_59 : decode cX8_vitalSet 59 = .ok (.ixor, 1) := by decide +kernel
theorem d_X8_vitalSet_60 : decode cX8_vitalSet 60 = .ok (.iand, 1) := by decide +kernel
theorem d_X8_vitalSet_61 : decode cX8_vitalSet 61 = .ok (.istore 4, 2) := by decide +kernel
theorem d_X8_vitalSet_63 : decode cX8_vitalSet 63 = .ok (.iinc 5 1, 3) := by decide +kernel
theorem d_X8_vitalSet_66 : decode cX8_vitalSet 66 = .ok (.goto (-42), 3) := by decide +kernel
theorem d_X8_vitalSet_69 : decode cX8_vitalSet 69 = .ok (.iload 4, 2) := by decide +kernel
theorem d_X8_vitalSet_71 : decode cX8_vitalSet 71 = .ok (.ireturn, 1) := by decide +kernel
theorem d_X11_vital_0 : decode cX11_vital 0 = .ok (.aload_n 0, 1) := by decide +kernel
theorem d_X11_vital_1 : decode cX11_vital 1 = .ok (.getfield 51, 3) := by decide +kernel
theorem d_X11_vital_4 : decode cX11_vital 4 = .ok (.aload_n 0, 1) := by decide +kernel
theorem d_X11_vital_5 : decode cX11_vital 5 = .ok (.getfield 10, 3) := by decide +kernel
theorem d_X11_vital_8 : decode cX11_vital 8 = .ok (.getfield 129, 3) := by decide +kernel
theorem d_X11_vital_11 : decode cX11_vital 11 = .ok (.invokevirtual 306, 3) := by decide +kernel
theorem d_X11_vital_14 : decode cX11_vital 14 = .ok (.ireturn, 1) := by decide +kernel
theorem d_X4_isLineLeft_0 : decode cX4_isLineLeft 0 = .ok (.iconst 0, 1) := by decide +kernel
theorem d_X4_isLineLeft_1 : decode cX4_isLineLeft 1 = .ok (.istore_n 1, 1) := by decide +kernel
theorem d_X4_isLineLeft_2 : decode cX4_isLineLeft 2 = .ok (.iload_n 1, 1) := by decide +kernel
theorem d_X4_isLineLeft_3 : decode cX4_isLineLeft 3 = .ok (.aload_n 0, 1) := by decide +kernel
theorem d_X4_isLineLeft_4 : decode cX4_isLineLeft 4 = .ok (.getfield 24, 3) := by decide +kernel
theorem d_X4_isLineLeft_7 : decode cX4_isLineLeft 7 = .ok (.getfield 61, 3) := by decide +kernel
theorem d_X4_isLineLeft_10 : decode cX4_isLineLeft 10 = .ok (.if_icmp .ge 53, 3) := by decide +kernel
theorem d_X4_isLineLeft_13 : decode cX4_isLineLeft 13 = .ok (.aload_n 0, 1) := by decide +kernel
theorem d_X4_isLineLeft_14 : decode cX4_isLineLeft 14 = .ok (.getfield 24, 3) := by decide +kernel
theorem d_X4_isLineLeft_17 : decode cX4_isLineLeft 17 = .ok (.iload_n 1, 1) := by decide +kernel
theorem d_X4_isLineLeft_18 : decode cX4_isLineLeft 18 = .ok (.invokevirtual 65, 3) := by decide +kernel
theorem d_X4_isLineLeft_21 : decode cX4_isLineLeft 21 = .ok (.ifCond .eq 36, 3) := by decide +kernel
theorem d_X4_isLineLeft_24 : decode cX4_isLineLeft 24 = .ok (.aload_n 0, 1) := by decide +kernel
theorem d_X4_isLineLeft_25 : decode cX4_isLineLeft 25 = .ok (.getfield 9, 3) := by decide +kernel
theorem d_X4_isLineLeft_28 : decode cX4_isLineLeft 28 = .ok (.aload_n 0, 1) := by decide +kernel
theorem d_X4_isLineLeft_29 : decode cX4_isLineLeft 29 = .ok (.getfield 24, 3) := by decide +kernel
theorem d_X4_isLineLeft_32 : decode cX4_isLineLeft 32 = .ok (.getfield 69, 3) := by decide +kernel
theorem d_X4_isLineLeft_35 : decode cX4_isLineLeft 35 = .ok (.iload_n 1, 1) := by decide +kernel
theorem d_X4_isLineLeft_36 : decode cX4_isLineLeft 36 = .ok (.iaload, 1) := by decide +kernel
theorem d_X4_isLineLeft_37 : decode cX4_isLineLeft 37 = .ok (.iaload, 1) := by decide +kernel
theorem d_X4_isLineLeft_38 : decode cX4_isLineLeft 38 = .ok (.aload_n 0, 1) := by decide +kernel
theorem d_X4_isLineLeft_39 : decode cX4_isLineLeft 39 = .ok (.getfield 9, 3) := by decide +kernel
theorem d_X4_isLineLeft_42 : decode cX4_isLineLeft 42 = .ok (.aload_n 0, 1) := by decide +kernel
theorem d_X4_isLineLeft_43 : decode cX4_isLineLeft 43 = .ok (.getfield 24, 3) := by decide +kernel
theorem d_X4_isLineLeft_46 : decode cX4_isLineLeft 46 = .ok (.getfield 72, 3) := by decide +kernel
theorem d_X4_isLineLeft_49 : decode cX4_isLineLeft 49 = .ok (.iload_n 1, 1) := by decide +kernel
theorem d_X4_isLineLeft_50 : decode cX4_isLineLeft 50 = .ok (.iaload, 1) := by decide +kernel
theorem d_X4_isLineLeft_51 : decode cX4_isLineLeft 51 = .ok (.iaload, 1) := by decide +kernel
theorem d_X4_isLineLeft_52 : decode cX4_isLineLeft 52 = .ok (.if_icmp .eq 5, 3) := by decide +kernel
theorem d_X4_isLineLeft_55 : decode cX4_isLineLeft 55 = .ok (.iconst 1, 1) := by decide +kernel
theorem d_X4_isLineLeft_56 : decode cX4_isLineLeft 56 = .ok (.ireturn, 1) := by decide +kernel
theorem d_X4_isLineLeft_57 : decode cX4_isLineLeft 57 = .ok (.iinc 1 1, 3) := by decide +kernel
theorem d_X4_isLineLeft_60 : decode cX4_isLineLeft 60 = .ok (.goto (-58), 3) := by decide +kernel
theorem d_X4_isLineLeft_63 : decode cX4_isLineLeft 63 = .ok (.iconst 0, 1) := by decide +kernel
theorem d_X4_isLineLeft_64 : decode cX4_isLineLeft 64 = .ok (.ireturn, 1) := by decide +kernel
theorem d_X4_join_0 : decode cX4_join 0 = .ok (.iload_n 1, 1) := by decide +kernel
theorem d_X4_join_1 : decode cX4_join 1 = .ok (.iload_n 1, 1) := by decide +kernel
theorem d_X4_join_2 : decode cX4_join 2 = .ok (.ineg, 1) := by decide +kernel
theorem d_X4_join_3 : decode cX4_join 3 = .ok (.iand, 1) := by decide +kernel
theorem d_X4_join_4 : decode cX4_join 4 = .ok (.iconst 1, 1) := by decide +kernel
theorem d_X4_join_5 : decode cX4_join 5 = .ok (.isub, 1) := by decide +kernel
theorem d_X4_join_6 : decode cX4_join 6 = .ok (.invokestatic 75, 3) := by decide +kernel
theorem d_X4_join_9 : decode cX4_join 9 = .ok (.istore_n 2, 1) := by decide +kernel
theorem d_X4_join_10 : decode cX4_join 10 = .ok (.iconst 0, 1) := by decide +kernel
theorem d_X4_join_11 : decode cX4_join 11 = .ok (.istore_n 3, 1) := by decide +kernel
theorem d_X4_join_12 : decode cX4_join 12 = .ok (.iconst 0, 1) := by decide +kernel
theorem d_X4_join_13 : decode cX4_join 13 = .ok (.istore 4, 2) := by decide +kernel
theorem d_X4_join_15 : decode cX4_join 15 = .ok (.iload 4, 2) := by decide +kernel
theorem d_X4_join_17 : decode cX4_join 17 = .ok (.aload_n 0, 1) := by decide +kernel
theorem d_X4_join_18 : decode cX4_join 18 = .ok (.getfield 24, 3) := by decide +kernel
theorem d_X4_join_21 : decode cX4_join 21 = .ok (.getfield 80, 3) := by decide +kernel
theorem d_X4_join_24 : decode cX4_join 24 = .ok (.if_icmp .ge 38, 3) := by decide +kernel
theorem d_X4_join_27 : decode cX4_join 27 = .ok (.iload_n 1, 1) := by decide +kernel
theorem d_X4_join_28 : decode cX4_join 28 = .ok (.aload_n 0, 1) := by decide +kernel
theorem d_X4_join_29 : decode cX4_join 29 = .ok (.getfield 9, 3) := by decide +kernel
theorem d_X4_join_32 : decode cX4_join 32 = .ok (.iload 4, 2) := by decide +kernel
theorem d_X4_join_34 : decode cX4_join 34 = .ok (.iaload, 1) := by decide +kernel
theorem d_X4_join_35 : decode cX4_join 35 = .ok (.ishr, 1) := by decide +kernel
theorem d_X4_join_36 : decode cX4_join 36 = .ok (.iconst 1, 1) := by decide +kernel
theorem d_X4_join_37 : decode cX4_join 37 = .ok (.iand, 1) := by decide +kernel
theorem d_X4_join_38 : decode cX4_join 38 = .ok (.ifCond .eq 18, 3) := by decide +kernel
theorem d_X4_join_41 : decode cX4_join 41 = .ok (.aload_n 0, 1) := by decide +kernel
theorem d_X4_join_42 : decode cX4_join 42 = .ok (.getfield 9, 3) := by decide +kernel
theorem d_X4_join_45 : decode cX4_join 45 = .ok (.iload 4, 2) := by decide +kernel
theorem d_X4_join_47 : decode cX4_join 47 = .ok (.iload_n 2, 1) := by decide +kernel
theorem d_X4_join_48 : decode cX4_join 48 = .ok (.iastore, 1) := by decide +kernel
theorem d_X4_join_49 : decode cX4_join 49 = .ok (.iload_n 3, 1) := by decide +kernel
theorem d_X4_join_50 : decode cX4_join 50 = .ok (.iconst 1, 1) := by decide +kernel
theorem d_X4_join_51 : decode cX4_join 51 = .ok (.iload 4, 2) := by decide +kernel
theorem d_X4_join_53 : decode cX4_join 53 = .ok (.ishl, 1) := by decide +kernel
theorem d_X4_join_54 : decode cX4_join 54 = .ok (.ior, 1) := by decide +kernel
theorem d_X4_join_55 : decode cX4_join 55 = .ok (.istore_n 3, 1) := by decide +kernel
theorem d_X4_join_56 : decode cX4_join 56 = .ok (.iinc 4 1, 3) := by decide +kernel
theorem d_X4_join_59 : decode cX4_join 59 = .ok (.goto (-44), 3) := by decide +kernel
theorem d_X4_join_62 : decode cX4_join 62 = .ok (.iload_n 3, 1) := by decide +kernel
theorem d_X4_join_63 : decode cX4_join 63 = .ok (.ireturn, 1) := by decide +kernel
theorem d_X4_melt_0 : decode cX4_melt 0 = .ok (.iconst 0, 1) := by decide +kernel
theorem d_X4_melt_1 : decode cX4_melt 1 = .ok (.istore_n 1, 1) := by decide +kernel
theorem d_X4_melt_2 : decode cX4_melt 2 = .ok (.iload_n 1, 1) := by decide +kernel
theorem d_X4_melt_3 : decode cX4_melt 3 = .ok (.bipush 10, 2) := by decide +kernel
theorem d_X4_melt_5 : decode cX4_melt 5 = .ok (.if_icmp .ge 16, 3) := by decide +kernel
theorem d_X4_melt_8 : decode cX4_melt 8 = .ok (.aload_n 0, 1) := by decide +kernel
theorem d_X4_melt_9 : decode cX4_melt 9 = .ok (.getfield 9, 3) := by decide +kernel
theorem d_X4_melt_12 : decode cX4_melt 12 = .ok (.iload_n 1, 1) := by decide +kernel
theorem d_X4_melt_13 : decode cX4_melt 13 = .ok (.iload_n 1, 1) := by decide +kernel
theorem d_X4_melt_14 : decode cX4_melt 14 = .ok (.iastore, 1) := by decide +kernel
theorem d_X4_melt_15 : decode cX4_melt 15 = .ok (.iinc 1 1, 3) := by decide +kernel
theorem d_X4_melt_18 : decode cX4_melt 18 = .ok (.goto (-16), 3) := by decide +kernel
theorem d_X4_melt_21 : decode cX4_melt 21 = .ok (.aload_n 0, 1) := by decide +kernel
theorem d_X4_melt_22 : decode cX4_melt 22 = .ok (.getfield 24, 3) := by decide +kernel
theorem d_X4_melt_25 : decode cX4_melt 25 = .ok (.invokevirtual 32, 3) := by decide +kernel
theorem d_X4_melt_28 : decode cX4_melt 28 = .ok (.istore_n 1, 1) := by decide +kernel
theorem d_X4_melt_29 : decode cX4_melt 29 = .ok (.iconst 0, 1) := by decide +kernel
theorem d_X4_melt_30 : decode cX4_melt 30 = .ok (.istore_n 2, 1) := by decide +kernel
theorem d_X4_melt_31 : decode cX4_melt 31 = .ok (.iload_n 2, 1) := by decide +kernel
theorem d_X4_melt_32 : decode cX4_melt 32 = .ok (.bipush 10, 2) := by decide +kernel
theorem d_X4_melt_34 : decode cX4_melt 34 = .ok (.if_icmp .ge 83, 3) := by decide +kernel
theorem d_X4_melt_37 : decode cX4_melt 37 = .ok (.aload_n 0, 1) := by decide +kernel
theorem d_X4_melt_38 : decode cX4_melt 38 = .ok (.invokevirtual 38, 3) := by decide +kernel
theorem d_X4_melt_41 : decode cX4_melt 41 = .ok (.ifCond .eq 76, 3) := by decide +kernel
theorem d_X4_melt_44 : decode cX4_melt 44 = .ok (.aload_n 0, 1) := by decide +kernel
theorem d_X4_melt_45 : decode cX4_melt 45 = .ok (.getfield 28, 3) := by decide +kernel
theorem d_X4_melt_48 : decode cX4_melt 48 = .ok (.aload_n 0, 1) := by decide +kernel
theorem d_X4_melt_49 : decode cX4_melt 49 = .ok (.getfield 9, 3) := by decide +kernel
theorem d_X4_melt_52 : decode cX4_melt 52 = .ok (.iload_n 1, 1) := by decide +kernel
theorem d_X4_melt_53 : decode cX4_melt 53 = .ok (.invokevirtual 42, 3) := by decide +kernel
theorem d_X4_melt_56 : decode cX4_melt 56 = .ok (.aload_n 0, 1) := by decide +kernel
theorem d_X4_melt_57 : decode cX4_melt 57 = .ok (.getfield 28, 3) := by decide +kernel
theorem d_X4_melt_60 : decode cX4_melt 60 = .ok (.invokevirtual 48, 3) := by decide +kernel
theorem d_X4_melt_63 : decode cX4_melt 63 = .ok (.istore_n 3, 1) := by decide +kernel
theorem d_X4_melt_64 : decode cX4_melt 64 = .ok (.aload_n 0, 1) := by decide +kernel
theorem d_X4_melt_65 : decode cX4_melt 65 = .ok (.getfield 15, 3) := by decide +kernel
theorem d_X4_melt_68 : decode cX4_melt 68 = .ok (.iload_n 2, 1) := by decide +kernel
theorem d_X4_melt_69 : decode cX4_melt 69 = .ok (.aload_n 0, 1) := by decide +kernel
theorem d_X4_melt_70 : decode cX4_melt 70 = .ok (.getfield 28, 3) := by decide +kernel
theorem d_X4_melt_73 : decode cX4_melt 73 = .ok (.invokevirtual 51, 3) := by decide +kernel
theorem d_X4_melt_76 : decode cX4_melt 76 = .ok (.iastore, 1) := by decide +kernel
theorem d_X4_melt_77 : decode cX4_melt 77 = .ok (.aload_n 0, 1) := by decide +kernel
theorem d_X4_melt_78 : decode cX4_melt 78 = .ok (.getfield 18, 3) := by decide +kernel
theorem d_X4_melt_81 : decode cX4_melt 81 = .ok (.iload_n 2, 1) := by decide +kernel
theorem d_X4_melt_82 : decode cX4_melt 82 = .ok (.aload_n 0, 1) := by decide +kernel
theorem d_X4_melt_83 : decode cX4_melt 83 = .ok (.getfield 28, 3) := by decide +kernel
theorem d_X4_melt_86 : decode cX4_melt 86 = .ok (.invokevirtual 54, 3) := by decide +kernel
theorem d_X4_melt_89 : decode cX4_melt 89 = .ok (.iastore, 1) := by decide +kernel
theorem d_X4_melt_90 : decode cX4_melt 90 = .ok (.aload_n 0, 1) := by decide +kernel
theorem d_X4_melt_91 : decode cX4_melt 91 = .ok (.getfield 21, 3) := by decide +kernel
theorem d_X4_melt_94 : decode cX4_melt 94 = .ok (.iload_n 2, 1) := by decide +kernel
theorem d_X4_melt_95 : decode cX4_melt 95 = .ok (.aload_n 0, 1) := by decide +kernel
theorem d_X4_melt_96 : decode cX4_melt 96 = .ok (.iload_n 3, 1) := by decide +kernel
theorem d_X4_melt_97 : decode cX4_melt 97 = .ok (.invokevirtual 57, 3) := by decide +kernel
theorem d_X4_melt_100 : decode cX4_melt 100 = .ok (.iastore, 1) := by decide +kernel
theorem d_X4_melt_101 : decode cX4_melt 101 = .ok (.iload_n 1, 1) := by decide +kernel
theorem d_X4_melt_102 : decode cX4_melt 102 = .ok (.iload_n 3, 1) := by decide +kernel
theorem d_X4_melt_103 : decode cX4_melt 103 = .ok (.iload_n 3, 1) := by decide +kernel
theorem d_X4_melt_104 : decode cX4_melt 104 = .ok (.iconst 1, 1) := by decide +kernel
theorem d_X4_melt_105 : decode cX4_melt 105 = .ok (.isub, 1) := by decide +kernel
theorem d_X4_melt_106 : decode cX4_melt 106 = .ok (.iand, 1) := by decide +kernel
theorem d_X4_melt_107 : decode cX4_melt 107 = .ok (.iconst (-1), 1) := by decide +kernel
theorem d_X4_melt_108 : decode cX4_melt 108 = .ok (.ixor, 1) := by decide +kernel
theorem d_X4_melt_109 : decode cX4_melt 109 = .ok (.iand, 1) := by decide +kernel
theorem d_X4_melt_110 : decode cX4_melt 110 = .ok (.istore_n 1, 1) := by decide +kernel
theorem d_X4_melt_111 : decode cX4_melt 111 = .ok (.iinc 2 1, 3) := by decide +kernel
theorem d_X4_melt_114 : decode cX4_melt 114 = .ok (.goto (-83), 3) := by decide +kernel
theorem d_X4_melt_117 : decode cX4_melt 117 = .ok (.iload_n 2, 1) := by decide +kernel
theorem d_X4_melt_118 : decode cX4_melt 118 = .ok (.ireturn, 1) := by decide +kernel
theorem d_X11_layers_0 : decode cX11_layers 0 = .ok (.aload_n 0, 1) := by decide +kernel
theorem d_X11_layers_1 : decode cX11_layers 1 = .ok (.getfield 60, 3) := by decide +kernel
theorem d_X11_layers_4 : decode cX11_layers 4 = .ok (.invokevirtual 309, 3) := by decide +kernel
theorem d_X11_layers_7 : decode cX11_layers 7 = .ok (.ireturn, 1) := by decide +kernel
theorem d_X4_aboveAt_0 : decode cX4_aboveAt 0 = .ok (.iload_n 1, 1) := by decide +kernel
theorem d_X4_aboveAt_1 : decode cX4_aboveAt 1 = .ok (.ifCond .lt 9, 3) := by decide +kernel
theorem d_X4_aboveAt_4 : decode cX4_aboveAt 4 = .ok (.iload_n 1, 1) := by decide +kernel
theorem d_X4_aboveAt_5 : decode cX4_aboveAt 5 = .ok (.bipush 10, 2) := by decide +kernel
theorem d_X4_aboveAt_7 : decode cX4_aboveAt 7 = .ok (.if_icmp .lt 7, 3) := by decide +kernel
theorem d_X4_aboveAt_10 : decode cX4_aboveAt 10 = .ok (.iconst 0, 1) := by decide +kernel
theorem d_X4_aboveAt_11 : decode cX4_aboveAt 11 = .ok (.goto 9, 3) := by decide +kernel
theorem d_X4_aboveAt_14 : decode cX4_aboveAt 14 = .ok (.aload_n 0, 1) := by decide +kernel
theorem d_X4_aboveAt_15 : decode cX4_aboveAt 15 = .ok (.getfield 15, 3) := by decide +kernel
theorem d_X4_aboveAt_18 : decode cX4_aboveAt 18 = .ok (.iload_n 1, 1) := by decide +kernel
theorem d_X4_aboveAt_19 : decode cX4_aboveAt 19 = .ok (.iaload, 1) := by decide +kernel
theorem d_X4_aboveAt_20 : decode cX4_aboveAt 20 = .ok (.ireturn, 1) := by decide +kernel
theorem d_X4_belowAt_0 : decode cX4_belowAt 0 = .ok (.iload_n 1, 1) := by decide +kernel
theorem d_X4_belowAt_1 : decode cX4_belowAt 1 = .ok (.ifCond .lt 9, 3) := by decide +kernel
theorem d_X4_belowAt_4 : decode cX4_belowAt 4 = .ok (.iload_n 1, 1) := by decide +kernel
theorem d_X4_belowAt_5 : decode cX4_belowAt 5 = .ok (.bipush 10, 2) := by decide +kernel
theorem d_X4_belowAt_7 : decode cX4_belowAt 7 = .ok (.if_icmp .lt 7, 3) := by decide +kernel
theorem d_X4_belowAt_10 : decode cX4_belowAt 10 = .ok (.iconst 1, 1) := by decide +kernel
theorem d_X4_belowAt_11 : decode cX4_belowAt 11 = .ok (.goto 9, 3) := by decide +kernel
theorem d_X4_belowAt_14 : decode cX4_belowAt 14 = .ok (.aload_n 0, 1) := by decide +kernel
theorem d_X4_belowAt_15 : decode cX4_belowAt 15 = .ok (.getfield 18, 3) := by decide +kernel
theorem d_X4_belowAt_18 : decode cX4_belowAt 18 = .ok (.iload_n 1, 1) := by decide +kernel
theorem d_X4_belowAt_19 : decode cX4_belowAt 19 = .ok (.iaload, 1) := by decide +kernel
theorem d_X4_belowAt_20 : decode cX4_belowAt 20 = .ok (.ireturn, 1) := by decide +kernel
theorem d_X4_setAt_0 : decode cX4_setAt 0 = .ok (.iload_n 1, 1) := by decide +kernel
theorem d_X4_setAt_1 : decode cX4_setAt 1 = .ok (.ifCond .lt 9, 3) := by decide +kernel
theorem d_X4_setAt_4 : decode cX4_setAt 4 = .ok (.iload_n 1, 1) := by decide +kernel
theorem d_X4_setAt_5 : decode cX4_setAt 5 = .ok (.bipush 10, 2) := by decide +kernel
theorem d_X4_setAt_7 : decode cX4_setAt 7 = .ok (.if_icmp .lt 7, 3) := by decide +kernel
theorem d_X4_setAt_10 : decode cX4_setAt 10 = .ok (.iconst 0, 1) := by decide +kernel
theorem d_X4_setAt_11 : decode cX4_setAt 11 = .ok (.goto 9, 3) := by decide +kernel
theorem d_X4_setAt_14 : decode cX4_setAt 14 = .ok (.aload_n 0, 1) := by decide +kernel
theorem d_X4_setAt_15 : decode cX4_setAt 15 = .ok (.getfield 21, 3) := by decide +kernel
theorem d_X4_setAt_18 : decode cX4_setAt 18 = .ok (.iload_n 1, 1) := by decide +kernel
theorem d_X4_setAt_19 : decode cX4_setAt 19 = .ok (.iaload, 1) := by decide +kernel
theorem d_X4_setAt_20 : decode cX4_setAt 20 = .ok (.ireturn, 1) := by decide +kernel
theorem d_X11_layerAt_0 : decode cX11_layerAt 0 = .ok (.iload_n 1, 1) := by decide +kernel
theorem d_X11_layerAt_1 : decode cX11_layerAt 1 = .ok (.ifCond .lt 23, 3) := by decide +kernel
theorem d_X11_layerAt_4 : decode cX11_layerAt 4 = .ok (.iload_n 1, 1) := by decide +kernel
theorem d_X11_layerAt_5 : decode cX11_layerAt 5 = .ok (.aload_n 0, 1) := by decide +kernel
theorem d_X11_layerAt_6 : decode cX11_layerAt 6 = .ok (.getfield 60, 3) := by decide +kernel
theorem d_X11_layerAt_9 : decode cX11_layerAt 9 = .ok (.invokevirtual 309, 3) := by decide +kernel
theorem d_X11_layerAt_12 : decode cX11_layerAt 12 = .ok (.if_icmp .ge 12, 3) := by decide +kernel
theorem d_X11_layerAt_15 : decode cX11_layerAt 15 = .ok (.iload_n 2, 1) := by decide +kernel
theorem d_X11_layerAt_16 : decode cX11_layerAt 16 = .ok (.ifCond .lt 8, 3) := by decide +kernel
theorem d_X11_layerAt_19 : decode cX11_layerAt 19 = .ok (.iload_n 2, 1) := by decide +kernel
theorem d_X11_layerAt_20 : decode cX11_layerAt 20 = .ok (.iconst 2, 1) := by decide +kernel
theorem d_X11_layerAt_21 : decode cX11_layerAt 21 = .ok (.if_icmp .le 5, 3) := by decide +kernel
theorem d_X11_layerAt_24 : decode cX11_layerAt 24 = .ok (.iconst (-1), 1) := by decide +kernel
theorem d_X11_layerAt_25 : decode cX11_layerAt 25 = .ok (.ireturn, 1) := by decide +kernel
theorem d_X11_layerAt_26 : decode cX11_layerAt 26 = .ok (.iload_n 2, 1) := by decide +kernel
theorem d_X11_layerAt_27 : decode cX11_layerAt 27 = .ok (.iconst 2, 1) := by decide +kernel
theorem d_X11_layerAt_28 : decode cX11_layerAt 28 = .ok (.if_icmp .ne 12, 3) := by decide +kernel
theorem d_X11_layerAt_31 : decode cX11_layerAt 31 = .ok (.aload_n 0, 1) := by decide +kernel
theorem d_X11_layerAt_32 : decode cX11_layerAt 32 = .ok (.getfield 60, 3) := by decide +kernel
theorem d_X11_layerAt_35 : decode cX11_layerAt 35 = .ok (.iload_n 1, 1) := by decide +kernel
theorem d_X11_layerAt_36 : decode cX11_layerAt 36 = .ok (.invokevirtual 312, 3) := by decide +kernel
theorem d_X11_layerAt_39 : decode cX11_layerAt 39 = .ok (.ireturn, 1) := by decide +kernel
theorem d_X11_layerAt_40 : decode cX11_layerAt 40 = .ok (.aload_n 0, 1) := by decide +kernel
theorem d_X11_layerAt_41 : decode cX11_layerAt 41 = .ok (.getfield 60, 3) := by decide +kernel
theorem d_X11_layerAt_44 : decode cX11_layerAt 44 = .ok (.iload_n 1, 1) := by decide +kernel
theorem d_X11_layerAt_45 : decode cX11_layerAt 45 = .ok (.invokevirtual 315, 3) := by decide +kernel
theorem d_X11_layerAt_48 : decode cX11_layerAt 48 = .ok (.aload_n 0, 1) := by decide +kernel
theorem d_X11_layerAt_49 : decode cX11_layerAt 49 = .ok (.getfield 60, 3) := by decide +kernel
theorem d_X11_layerAt_52 : decode cX11_layerAt 52 = .ok (.iload_n 1, 1) := by decide +kernel
theorem d_X11_layerAt_53 : decode cX11_layerAt 53 = .ok (.invokevirtual 318, 3) := by decide +kernel
theorem d_X11_layerAt_56 : decode cX11_layerAt 56 = .ok (.iload_n 2, 1) := by decide +kernel
theorem d_X11_layerAt_57 : decode cX11_layerAt 57 = .ok (.invokestatic 282, 3) := by decide +kernel
theorem d_X11_layerAt_60 : decode cX11_layerAt 60 = .ok (.ireturn, 1) := by decide +kernel
theorem d_X8_takeByWeight_0 : decode cX8_takeByWeight 0 = .ok (.aload_n 0, 1) := by decide +kernel
theorem d_X8_takeByWeight_1 : decode cX8_takeByWeight 1 = .ok (.invokevirtual 92, 3) := by decide +kernel
theorem d_X8_takeByWeight_4 : decode cX8_takeByWeight 4 = .ok (.iconst 0, 1) := by decide +kernel
theorem d_X8_takeByWeight_5 : decode cX8_takeByWeight 5 = .ok (.istore_n 2, 1) := by decide +kernel
theorem d_X8_takeByWeight_6 : decode cX8_takeByWeight 6 = .ok (.iconst 1, 1) := by decide +kernel
theorem d_X8_takeByWeight_7 : decode cX8_takeByWeight 7 = .ok (.istore_n 3, 1) := by decide +kernel
theorem d_X8_takeByWeight_8 : decode cX8_takeByWeight 8 = .ok (.iload_n 3, 1) := by decide +kernel
theorem d_X8_takeByWeight_9 : decode cX8_takeByWeight 9 = .ok (.bipush 99, 2) := by decide +kernel
theorem d_X8_takeByWeight_11 : decode cX8_takeByWeight 11 = .ok (.if_icmp .gt 73, 3) := by decide +kernel
theorem d_X8_takeByWeight_14 : decode cX8_takeByWeight 14 = .ok (.iconst 0, 1) := by decide +kernel
theorem d_X8_takeByWeight_15 : decode cX8_takeByWeight 15 = .ok (.istore 4, 2) := by decide +kernel
theorem d_X8_takeByWeight_17 : decode cX8_takeByWeight 17 = .ok (.iload 4, 2) := by decide +kernel
theorem d_X8_takeByWeight_19 : decode cX8_takeByWeight 19 = .ok (.aload_n 0, 1) := by decide +kernel
theorem d_X8_takeByWeight_20 : decode cX8_takeByWeight 20 = .ok (.getfield 21, 3) := by decide +kernel
theorem d_X8_takeByWeight_23 : decode cX8_takeByWeight 23 = .ok (.getfield 44, 3) := by decide +kernel
theorem d_X8_takeByWeight_26 : decode cX8_takeByWeight 26 = .ok (.if_icmp .ge 52, 3) := by decide +kernel
theorem d_X8_takeByWeight_29 : decode cX8_takeByWeight 29 = .ok (.aload_n 0, 1) := by decide +kernel
theorem d_X8_takeByWeight_30 : decode cX8_takeByWeight 30 = .ok (.getfield 21, 3) := by decide +kernel
theorem d_X8_takeByWeight_33 : decode cX8_takeByWeight 33 = .ok (.getfield 98, 3) := by decide +kernel
theorem d_X8_takeByWeight_36 : decode cX8_takeByWeight 36 = .ok (.iload 4, 2) := by decide +kernel
theorem d_X8_takeByWeight_38 : decode cX8_takeByWeight 38 = .ok (.iaload, 1) := by decide +kernel
theorem d_X8_takeByWeight_39 : decode cX8_takeByWeight 39 = .ok (.iload_n 3, 1) := by decide +kernel
theorem d_X8_takeByWeight_40 : decode cX8_takeByWeight 40 = .ok (.if_icmp .ne 32, 3) := by decide +kernel
theorem d_X8_takeByWeight_43 : decode cX8_takeByWeight 43 = .ok (.aload_n 0, 1) := by decide +kernel
theorem d_X8_takeByWeight_44 : decode cX8_takeByWeight 44 = .ok (.getfield 21, 3) := by decide +kernel
theorem d_X8_takeByWeight_47 : decode cX8_takeByWeight 47 = .ok (.iload 4, 2) := by decide +kernel
theorem d_X8_takeByWeight_49 : decode cX8_takeByWeight 49 = .ok (.invokevirtual 53, 3) := by decide +kernel
theorem d_X8_takeByWeight_52 : decode cX8_takeByWeight 52 = .ok (.ifCond .eq 20, 3) := by decide +kernel
theorem d_X8_takeByWeight_55 : decode cX8_takeByWeight 55 = .ok (.aload_n 0, 1) := by decide +kernel
theorem d_X8_takeByWeight_56 : decode cX8_takeByWeight 56 = .ok (.iload 4, 2) := by decide +kernel
theorem d_X8_takeByWeight_58 : decode cX8_takeByWeight 58 = .ok (.iload_n 1, 1) := by decide +kernel
theorem d_X8_takeByWeight_59 : decode cX8_takeByWeight 59 = .ok (.invokevirtual 95, 3) := by decide +kernel
theorem d_X8_takeByWeight_62 : decode cX8_takeByWeight 62 = .ok (.ifCond .eq 10, 3) := by decide +kernel
theorem d_X8_takeByWeight_65 : decode cX8_takeByWeight 65 = .ok (.iload_n 2, 1) := by decide +kernel
theorem d_X8_takeByWeight_66 : decode cX8_takeByWeight 66 = .ok (.iconst 1, 1) := by decide +kernel
theorem d_X8_takeByWeight_67 : decode cX8_takeByWeight 67 = .ok (.iload 4, 2) := by decide +kernel
theorem d_X8_takeByWeight_69 : decode cX8_takeByWeight 69 = .ok (.ishl, 1) := by decide +kernel
theorem d_X8_takeByWeight_70 : decode cX8_takeByWeight 70 = .ok (.ior, 1) := by decide +kernel
theorem d_X8_takeByWeight_71 : decode cX8_takeByWeight 71 = .ok (.istore_n 2, 1) := by decide +kernel
theorem d_X8_takeByWeight_72 : decode cX8_takeByWeight 72 = .ok (.iinc 4 1, 3) := by decide +kernel
theorem d_X8_takeByWeight_75 : decode cX8_takeByWeight 75 = .ok (.goto (-58), 3) := by decide +kernel
theorem d_X8_takeByWeight_78 : decode cX8_takeByWeight 78 = .ok (.iinc 3 1, 3) := by decide +kernel
theorem d_X8_takeByWeight_81 : decode cX8_takeByWeight 81 = .ok (.goto (-73), 3) := by decide +kernel
theorem d_X8_takeByWeight_84 : decode cX8_takeByWeight 84 = .ok (.iload_n 2, 1) := by decide +kernel
theorem d_X8_takeByWeight_85 : decode cX8_takeByWeight 85 = .ok (.ireturn, 1) := by decide +kernel
theorem d_X5_weightOf_0 : decode cX5_weightOf 0 = .ok (.iconst 0, 1) := by decide +kernel
theorem d_X5_weightOf_1 : decode cX5_weightOf 1 = .ok (.istore_n 2, 1) := by decide +kernel
theorem d_X5_weightOf_2 : decode cX5_weightOf 2 = .ok (.iconst 0, 1) := by decide +kernel
theorem d_X5_weightOf_3 : decode cX5_weightOf 3 = .ok (.istore_n 3, 1) := by decide +kernel
theorem d_X5_weightOf_4 : decode cX5_weightOf 4 = .ok (.iload_n 3, 1) := by decide +kernel
theorem d_X5_weightOf_5 : decode cX5_weightOf 5 = .ok (.aload_n 0, 1) := by decide +kernel
theorem d_X5_weightOf_6 : decode cX5_weightOf 6 = .ok (.getfield 37, 3) := by decide +kernel
theorem d_X5_weightOf_9 : decode cX5_weightOf 9 = .ok (.if_icmp .ge 26, 3) := by decide +kernel
theorem d_X5_weightOf_12 : decode cX5_weightOf 12 = .ok (.iload_n 1, 1) := by decide +kernel
theorem d_X5_weightOf_13 : decode cX5_weightOf 13 = .ok (.iload_n 3, 1) := by decide +kernel
theorem d_X5_weightOf_14 : decode cX5_weightOf 14 = .ok (.ishr, 1) := by decide +kernel
theorem d_X5_weightOf_15 : decode cX5_weightOf 15 = .ok (.iconst 1, 1) := by decide +kernel
theorem d_X5_weightOf_16 : decode cX5_weightOf 16 = .ok (.iand, 1) := by decide +kernel
theorem d_X5_weightOf_17 : decode cX5_weightOf 17 = .ok (.ifCond .eq 12, 3) := by decide +kernel
theorem d_X5_weightOf_20 : decode cX5_weightOf 20 = .ok (.iload_n 2, 1) := by decide +kernel
theorem d_X5_weightOf_21 : decode cX5_weightOf 21 = .ok (.aload_n 0, 1) := by decide +kernel
theorem d_X5_weightOf_22 : decode cX5_weightOf 22 = .ok (.getfield 18, 3) := by decide +kernel
theorem d_X5_weightOf_25 : decode cX5_weightOf 25 = .ok (.iload_n 3, 1) := by decide +kernel
theorem d_X5_weightOf_26 : decode cX5_weightOf 26 = .ok (.iaload, 1) := by decide +kernel
theorem d_X5_weightOf_27 : decode cX5_weightOf 27 = .ok (.iadd, 1) := by decide +kernel
theorem d_X5_weightOf_28 : decode cX5_weightOf 28 = .ok (.istore_n 2, 1) := by decide +kernel
theorem d_X5_weightOf_29 : decode cX5_weightOf 29 = .ok (.iinc 3 1, 3) := by decide +kernel
theorem d_X5_weightOf_32 : decode cX5_weightOf 32 = .ok (.goto (-28), 3) := by decide +kernel
theorem d_X5_weightOf_35 : decode cX5_weightOf 35 = .ok (.iload_n 2, 1) := by decide +kernel
theorem d_X5_weightOf_36 : decode cX5_weightOf 36 = .ok (.ireturn, 1) := by decide +kernel
theorem d_X11_light_0 : decode cX11_light 0 = .ok (.iload_n 1, 1) := by decide +kernel
theorem d_X11_light_1 : decode cX11_light 1 = .ok (.ifCond .lt 18, 3) := by decide +kernel
theorem d_X11_light_4 : decode cX11_light 4 = .ok (.iload_n 1, 1) := by decide +kernel
theorem d_X11_light_5 : decode cX11_light 5 = .ok (.bipush 24, 2) := by decide +kernel
theorem d_X11_light_7 : decode cX11_light 7 = .ok (.if_icmp .gt 12, 3) := by decide +kernel
theorem d_X11_light_10 : decode cX11_light 10 = .ok (.iload_n 2, 1) := by decide +kernel
theorem d_X11_light_11 : decode cX11_light 11 = .ok (.ifCond .lt 8, 3) := by decide +kernel
theorem d_X11_light_14 : decode cX11_light 14 = .ok (.iload_n 2, 1) := by decide +kernel
theorem d_X11_light_15 : decode cX11_light 15 = .ok (.iconst 1, 1) := by decide +kernel
theorem d_X11_light_16 : decode cX11_light 16 = .ok (.if_icmp .le 5, 3) := by decide +kernel
theorem d_X11_light_19 : decode cX11_light 19 = .ok (.iconst (-1), 1) := by decide +kernel
theorem d_X11_light_20 : decode cX11_light 20 = .ok (.ireturn, 1) := by decide +kernel
theorem d_X11_light_21 : decode cX11_light 21 = .ok (.aload_n 0, 1) := by decide +kernel
theorem d_X11_light_22 : decode cX11_light 22 = .ok (.getfield 51, 3) := by decide +kernel
theorem d_X11_light_25 : decode cX11_light 25 = .ok (.iload_n 1, 1) := by decide +kernel
theorem d_X11_light_26 : decode cX11_light 26 = .ok (.invokevirtual 321, 3) := by decide +kernel
theorem d_X11_light_29 : decode cX11_light 29 = .ok (.istore_n 3, 1) := by decide +kernel
theorem d_X11_light_30 : decode cX11_light 30 = .ok (.iload_n 2, 1) := by decide +kernel
theorem d_X11_light_31 : decode cX11_light 31 = .ok (.iconst 1, 1) := by decide +kernel
theorem d_X11_light_32 : decode cX11_light 32 = .ok (.if_icmp .ne 7, 3) := by decide +kernel
theorem d_X11_light_35 : decode cX11_light 35 = .ok (.iload_n 3, 1) := by decide +kernel
theorem d_X11_light_36 : decode cX11_light 36 = .ok (.goto 11, 3) := by decide +kernel
theorem d_X11_light_39 : decode cX11_light 39 = .ok (.aload_n 0, 1) := by decide +kernel
theorem d_X11_light_40 : decode cX11_light 40 = .ok (.getfield 10, 3) := by decide +kernel
theorem d_X11_light_43 : decode cX11_light 43 = .ok (.iload_n 3, 1) := by decide +kernel
theorem d_X11_light_44 : decode cX11_light 44 = .ok (.invokevirtual 324, 3) := by decide +kernel
theorem d_X11_light_47 : decode cX11_light 47 = .ok (.ireturn, 1) := by decide +kernel
theorem d_X11_draw_0 : decode cX11_draw 0 = .ok (.aload_n 0, 1) := by decide +kernel
theorem d_X11_draw_1 : decode cX11_draw 1 = .ok (.aload_n 0, 1) := by decide +kernel
theorem d_X11_draw_2 : decode cX11_draw 2 = .ok (.getfield 327, 3) := by decide +kernel
theorem d_X11_draw_5 : decode cX11_draw 5 = .ok (.ldc_w 333, 3) := by decide +kernel
theorem d_X11_draw_8 : decode cX11_draw 8 = .ok (.imul, 1) := by decide +kernel
theorem d_X11_draw_9 : decode cX11_draw 9 = .ok (.sipush 12345, 3) := by decide +kernel
theorem d_X11_draw_12 : decode cX11_draw 12 = .ok (.iadd, 1) := by decide +kernel
theorem d_X11_draw_13 : decode cX11_draw 13 = .ok (.putfield 327, 3) := by decide +kernel
theorem d_X11_draw_16 : decode cX11_draw 16 = .ok (.iload_n 1, 1) := by decide +kernel
theorem d_X11_draw_17 : decode cX11_draw 17 = .ok (.iconst 1, 1) := by decide +kernel
theorem d_X11_draw_18 : decode cX11_draw 18 = .ok (.if_icmp .ge 7, 3) := by decide +kernel
theorem d_X11_draw_21 : decode cX11_draw 21 = .ok (.iconst 0, 1) := by decide +kernel
theorem d_X11_draw_22 : decode cX11_draw 22 = .ok (.goto 12, 3) := by decide +kernel
theorem d_X11_draw_25 : decode cX11_draw 25 = .ok (.aload_n 0, 1) := by decide +kernel
theorem d_X11_draw_26 : decode cX11_draw 26 = .ok (.getfield 327, 3) := by decide +kernel
theorem d_X11_draw_29 : decode cX11_draw 29 = .ok (.bipush 8, 2) := by decide +kernel
theorem d_X11_draw_31 : decode cX11_draw 31 = .ok (.iushr, 1) := by decide +kernel
theorem d_X11_draw_32 : decode cX11_draw 32 = .ok (.iload_n 1, 1) := by decide +kernel
theorem d_X11_draw_33 : decode cX11_draw 33 = .ok (.irem, 1) := by decide +kernel
theorem d_X11_draw_34 : decode cX11_draw 34 = .ok (.ireturn, 1) := by decide +kernel
theorem d_X11_deedTrade_0 : decode cX11_deedTrade 0 = .ok (.aload_n 0, 1) := by decide +kernel
theorem d_X11_deedTrade_1 : decode cX11_deedTrade 1 = .ok (.getfield 44, 3) := by decide +kernel
theorem d_X11_deedTrade_4 : decode cX11_deedTrade 4 = .ok (.iload_n 1, 1) := by decide +kernel
theorem d_X11_deedTrade_5 : decode cX11_deedTrade 5 = .ok (.iload_n 2, 1) := by decide +kernel
theorem d_X11_deedTrade_6 : decode cX11_deedTrade 6 = .ok (.invokevirtual 225, 3) := by decide +kernel
theorem d_X11_deedTrade_9 : decode cX11_deedTrade 9 = .ok (.istore_n 3, 1) := by decide +kernel
theorem d_X11_deedTrade_10 : decode cX11_deedTrade 10 = .ok (.iload_n 3, 1) := by decide +kernel
theorem d_X11_deedTrade_11 : decode cX11_deedTrade 11 = .ok (.iconst (-1), 1) := by decide +kernel
theorem d_X11_deedTrade_12 : decode cX11_deedTrade 12 = .ok (.if_icmp .ne 5, 3) := by decide +kernel
theorem d_X11_deedTrade_15 : decode cX11_deedTrade 15 = .ok (.iconst 0, 1) := by decide +kernel
theorem d_X11_deedTrade_16 : decode cX11_deedTrade 16 = .ok (.ireturn, 1) := by decide +kernel
theorem d_X11_deedTrade_17 : decode cX11_deedTrade 17 = .ok (.aload_n 0, 1) := by decide +kernel
theorem d_X11_deedTrade_18 : decode cX11_deedTrade 18 = .ok (.getfield 44, 3) := by decide +kernel
theorem d_X11_deedTrade_21 : decode cX11_deedTrade 21 = .ok (.iload_n 1, 1) := by decide +kernel
theorem d_X11_deedTrade_22 : decode cX11_deedTrade 22 = .ok (.iload_n 3, 1) := by decide +kernel
theorem d_X11_deedTrade_23 : decode cX11_deedTrade 23 = .ok (.invokevirtual 228, 3) := by decide +kernel
theorem d_X11_deedTrade_26 : decode cX11_deedTrade 26 = .ok (.iconst 1, 1) := by decide +kernel
theorem d_X11_deedTrade_27 : decode cX11_deedTrade 27 = .ok (.ireturn, 1) := by decide +kernel
theorem d_X11_deedPut_0 : decode cX11_deedPut 0 = .ok (.aload_n 0, 1) := by decide +kernel
theorem d_X11_deedPut_1 : decode cX11_deedPut 1 = .ok (.iload_n 1, 1) := by decide +kernel
theorem d_X11_deedPut_2 : decode cX11_deedPut 2 = .ok (.iload_n 2, 1) := by decide +kernel
theorem d_X11_deedPut_3 : decode cX11_deedPut 3 = .ok (.invokevirtual 204, 3) := by decide +kernel
theorem d_X11_deedPut_6 : decode cX11_deedPut 6 = .ok (.ifCond .eq 5, 3) := by decide +kernel
theorem d_X11_deedPut_9 : decode cX11_deedPut 9 = .ok (.iconst 0, 1) := by decide +kernel
theorem d_X11_deedPut_10 : decode cX11_deedPut 10 = .ok (.ireturn, 1) := by decide +kernel
theorem d_X11_deedPut_11 : decode cX11_deedPut 11 = .ok (.aload_n 0, 1) := by decide +kernel
theorem d_X11_deedPut_12 : decode cX11_deedPut 12 = .ok (.getfield 10, 3) := by decide +kernel
theorem d_X11_deedPut_15 : decode cX11_deedPut 15 = .ok (.getfield 139, 3) := by decide +kernel
theorem d_X11_deedPut_18 : decode cX11_deedPut 18 = .ok (.iload_n 1, 1) := by decide +kernel
theorem d_X11_deedPut_19 : decode cX11_deedPut 19 = .ok (.iload_n 2, 1) := by decide +kernel
theorem d_X11_deedPut_20 : decode cX11_deedPut 20 = .ok (.iastore, 1) := by decide +kernel
theorem d_X11_deedPut_21 : decode cX11_deedPut 21 = .ok (.iconst 1, 1) := by decide +kernel
theorem d_X11_deedPut_22 : decode cX11_deedPut 22 = .ok (.ireturn, 1) := by decide +kernel
theorem d_X11_deedBreakOrMend_0 : decode cX11_deedBreakOrMend 0 = .ok (.aload_n 0, 1) := by decide +kernel
theorem d_X11_deedBreakOrMend_1 : decode cX11_deedBreakOrMend 1 = .ok (.getfield 10, 3) := by decide +kernel
theorem d_X11_deedBreakOrMend_4 : decode cX11_deedBreakOrMend 4 = .ok (.iload_n 1, 1) := by decide +kernel
theorem d_X11_deedBreakOrMend_5 : decode cX11_deedBreakOrMend 5 = .ok (.invokevirtual 166, 3) := by decide +kernel
theorem d_X11_deedBreakOrMend_8 : decode cX11_deedBreakOrMend 8 = .ok (.ifCond .eq 14, 3) := by decide +kernel
theorem d_X11_deedBreakOrMend_11 : decode cX11_deedBreakOrMend 11 = .ok (.aload_n 0, 1) := by decide +kernel
theorem d_X11_deedBreakOrMend_12 : decode cX11_deedBreakOrMend 12 = .ok (.getfield 10, 3) := by decide +kernel
theorem d_X11_deedBreakOrMend_15 : decode cX11_deedBreakOrMend 15 = .ok (.iload_n 1, 1) := by decide +kernel
theorem d_X11_deedBreakOrMend_16 : decode cX11_deedBreakOrMend 16 = .ok (.invokevirtual 232, 3) := by decide +kernel
theorem d_X11_deedBreakOrMend_19 : decode cX11_deedBreakOrMend 19 = .ok (.goto 11, 3) := by decide +kernel
theorem d_X11_deedBreakOrMend_22 : decode cX11_deedBreakOrMend 22 = .ok (.aload_n 0, 1) := by decide +kernel
theorem d_X11_deedBreakOrMend_23 : decode cX11_deedBreakOrMend 23 = .ok (.getfield 10, 3) := by decide +kernel
theorem d_X11_deedBreakOrMend_26 : decode cX11_deedBreakOrMend 26 = .ok (.iload_n 1, 1) := by decide +kernel
theorem d_X11_deedBreakOrMend_27 : decode cX11_deedBreakOrMend 27 = .ok (.invokevirtual 235, 3) := by decide +kernel
theorem d_X11_deedBreakOrMend_30 : decode cX11_deedBreakOrMend 30 = .ok (.iconst 1, 1) := by decide +kernel
theorem d_X11_deedBreakOrMend_31 : decode cX11_deedBreakOrMend 31 = .ok (.ireturn, 1) := by decide +kernel
theorem d_X11_deedLift_0 : decode cX11_deedLift 0 = .ok (.aload_n 0, 1) := by decide +kernel
theorem d_X11_deedLift_1 : decode cX11_deedLift 1 = .ok (.getfield 10, 3) := by decide +kernel
theorem d_X11_deedLift_4 : decode cX11_deedLift 4 = .ok (.getfield 139, 3) := by decide +kernel
theorem d_X11_deedLift_7 : decode cX11_deedLift 7 = .ok (.iload_n 1, 1) := by decide +kernel
theorem d_X11_deedLift_8 : decode cX11_deedLift 8 = .ok (.iaload, 1) := by decide +kernel
theorem d_X11_deedLift_9 : decode cX11_deedLift 9 = .ok (.iconst (-1), 1) := by decide +kernel
theorem d_X11_deedLift_10 : decode cX11_deedLift 10 = .ok (.if_icmp .ne 5, 3) := by decide +kernel
theorem d_X11_deedLift_13 : decode cX11_deedLift 13 = .ok (.iconst 0, 1) := by decide +kernel
theorem d_X11_deedLift_14 : decode cX11_deedLift 14 = .ok (.ireturn, 1) := by decide +kernel
theorem d_X11_deedLift_15 : decode cX11_deedLift 15 = .ok (.aload_n 0, 1) := by decide +kernel
theorem d_X11_deedLift_16 : decode cX11_deedLift 16 = .ok (.getfield 10, 3) := by decide +kernel
theorem d_X11_deedLift_19 : decode cX11_deedLift 19 = .ok (.getfield 139, 3) := by decide +kernel
theorem d_X11_deedLift_22 : decode cX11_deedLift 22 = .ok (.iload_n 1, 1) := by decide +kernel
theorem d_X11_deedLift_23 : decode cX11_deedLift 23 = .ok (.iconst (-1), 1) := by decide +kernel
theorem d_X11_deedLift_24 : decode cX11_deedLift 24 = .ok (.iastore, 1) := by decide +kernel
theorem d_X11_deedLift_25 : decode cX11_deedLift 25 = .ok (.iconst 1, 1) := by decide +kernel
theorem d_X11_deedLift_26 : decode cX11_deedLift 26 = .ok (.ireturn, 1) := by decide +kernel
theorem d_X11_deedPlace_0 : decode cX11_deedPlace 0 = .ok (.aload_n 0, 1) := by decide +kernel
theorem d_X11_deedPlace_1 : decode cX11_deedPlace 1 = .ok (.iload_n 1, 1) := by decide +kernel
theorem d_X11_deedPlace_2 : decode cX11_deedPlace 2 = .ok (.invokevirtual 207, 3) := by decide +kernel
theorem d_X11_deedPlace_5 : decode cX11_deedPlace 5 = .ok (.ifCond .eq 14, 3) := by decide +kernel
theorem d_X11_deedPlace_8 : decode cX11_deedPlace 8 = .ok (.aload_n 0, 1) := by decide +kernel
theorem d_X11_deedPlace_9 : decode cX11_deedPlace 9 = .ok (.getfield 44, 3) := by decide +kernel
theorem d_X11_deedPlace_12 : decode cX11_deedPlace 12 = .ok (.iload_n 1, 1) := by decide +kernel
theorem d_X11_deedPlace_13 : decode cX11_deedPlace 13 = .ok (.invokevirtual 210, 3) := by decide +kernel
theorem d_X11_deedPlace_16 : decode cX11_deedPlace 16 = .ok (.ifCond .ne 5, 3) := by decide +kernel
theorem d_X11_deedPlace_19 : decode cX11_deedPlace 19 = .ok (.iconst 0, 1) := by decide +kernel
theorem d_X11_deedPlace_20 : decode cX11_deedPlace 20 = .ok (.ireturn, 1) := by decide +kernel
theorem d_X11_deedPlace_21 : decode cX11_deedPlace 21 = .ok (.aload_n 0, 1) := by decide +kernel
theorem d_X11_deedPlace_22 : decode cX11_deedPlace 22 = .ok (.getfield 44, 3) := by decide +kernel
theorem d_X11_deedPlace_25 : decode cX11_deedPlace 25 = .ok (.invokevirtual 216, 3) := by decide +kernel
theorem d_X11_deedPlace_28 : decode cX11_deedPlace 28 = .ok (.iconst 1, 1) := by decide +kernel
theorem d_X11_deedPlace_29 : decode cX11_deedPlace 29 = .ok (.ireturn, 1) := by decide +kernel
theorem d_X11_drawDeed_0 : decode cX11_drawDeed 0 = .ok (.aload_n 0, 1) := by decide +kernel
theorem d_X11_drawDeed_1 : decode cX11_drawDeed 1 = .ok (.bipush 6, 2) := by decide +kernel
theorem d_X11_drawDeed_3 : decode cX11_drawDeed 3 = .ok (.invokevirtual 334, 3) := by decide +kernel
theorem d_X11_drawDeed_6 : decode cX11_drawDeed 6 = .ok (.istore_n 1, 1) := by decide +kernel
theorem d_X11_drawDeed_7 : decode cX11_drawDeed 7 = .ok (.aload_n 0, 1) := by decide +kernel
theorem d_X11_drawDeed_8 : decode cX11_drawDeed 8 = .ok (.aload_n 0, 1) := by decide +kernel
theorem d_X11_drawDeed_9 : decode cX11_drawDeed 9 = .ok (.getfield 10, 3) := by decide +kernel
theorem d_X11_drawDeed_12 : decode cX11_drawDeed 12 = .ok (.getfield 136, 3) := by decide +kernel
theorem d_X11_drawDeed_15 : decode cX11_drawDeed 15 = .ok (.invokevirtual 334, 3) := by decide +kernel
theorem d_X11_drawDeed_18 : decode cX11_drawDeed 18 = .ok (.istore_n 2, 1) := by decide +kernel
theorem d_X11_drawDeed_19 : decode cX11_drawDeed 19 = .ok (.iload_n 1, 1) := by decide +kernel
theorem d_X11_drawDeed_20 : decode cX11_drawDeed 20 = .ok (.tableswitch 71 0 4 #[36, 36, 42, 48, 54], 36) := by decide +kernel
theorem d_X11_drawDeed_56 : decode cX11_drawDeed 56 = .ok (.aload_n 0, 1) := by decide +kernel
theorem d_X11_drawDeed_57 : decode cX11_drawDeed 57 = .ok (.iload_n 2, 1) := by decide +kernel
theorem d_X11_drawDeed_58 : decode cX11_drawDeed 58 = .ok (.invokevirtual 337, 3) := by decide +kernel
theorem d_X11_drawDeed_61 : decode cX11_drawDeed 61 = .ok (.ireturn, 1) := by decide +kernel
theorem d_X11_drawDeed_62 : decode cX11_drawDeed 62 = .ok (.aload_n 0, 1) := by decide +kernel
theorem d_X11_drawDeed_63 : decode cX11_drawDeed 63 = .ok (.iload_n 2, 1) := by decide +kernel
theorem d_X11_drawDeed_64 : decode cX11_drawDeed 64 = .ok (.invokevirtual 340, 3) := by decide +kernel
theorem d_X11_drawDeed_67 : decode cX11_drawDeed 67 = .ok (.ireturn, 1) := by decide +kernel
theorem d_X11_drawDeed_68 : decode cX11_drawDeed 68 = .ok (.aload_n 0, 1) := by decide +kernel
theorem d_X11_drawDeed_69 : decode cX11_drawDeed 69 = .ok (.iload_n 2, 1) := by decide +kernel
theorem d_X11_drawDeed_70 : decode cX11_drawDeed 70 = .ok (.invokevirtual 343, 3) := by decide +kernel
theorem d_X11_drawDeed_73 : decode cX11_drawDeed 73 = .ok (.ireturn, 1) := by decide +kernel
theorem d_X11_drawDeed_74 : decode cX11_drawDeed 74 = .ok (.aload_n 0, 1) := by decide +kernel
theorem d_X11_drawDeed_75 : decode cX11_drawDeed 75 = .ok (.iload_n 2, 1) := by decide +kernel
theorem d_X11_drawDeed_76 : decode cX11_drawDeed 76 = .ok (.aload_n 0, 1) := by decide +kernel
theorem d_X11_drawDeed_77 : decode cX11_drawDeed 77 = .ok (.aload_n 0, 1) := by decide +kernel
theorem d_X11_drawDeed_78 : decode cX11_drawDeed 78 = .ok (.getfield 10, 3) := by decide +kernel
theorem d_X11_drawDeed_81 : decode cX11_drawDeed 81 = .ok (.getfield 129, 3) := by decide +kernel
theorem d_X11_drawDeed_84 : decode cX11_drawDeed 84 = .ok (.invokevirtual 334, 3) := by decide +kernel
theorem d_X11_drawDeed_87 : decode cX11_drawDeed 87 = .ok (.invokevirtual 346, 3) := by decide +kernel
theorem d_X11_drawDeed_90 : decode cX11_drawDeed 90 = .ok (.ireturn, 1) := by decide +kernel
theorem d_X11_drawDeed_91 : decode cX11_drawDeed 91 = .ok (.aload_n 0, 1) := by decide +kernel
theorem d_X11_drawDeed_92 : decode cX11_drawDeed 92 = .ok (.iload_n 2, 1) := by decide +kernel
theorem d_X11_drawDeed_93 : decode cX11_drawDeed 93 = .ok (.aload_n 0, 1) := by decide +kernel
theorem d_X11_drawDeed_94 : decode cX11_drawDeed 94 = .ok (.aload_n 0, 1) := by decide +kernel
theorem d_X11_drawDeed_95 : decode cX11_drawDeed 95 = .ok (.getfield 10, 3) := by decide +kernel
theorem d_X11_drawDeed_98 : decode cX11_drawDeed 98 = .ok (.getfield 129, 3) := by decide +kernel
theorem d_X11_drawDeed_101 : decode cX11_drawDeed 101 = .ok (.invokevirtual 334, 3) := by decide +kernel
theorem d_X11_drawDeed_104 : decode cX11_drawDeed 104 = .ok (.invokevirtual 350, 3) := by decide +kernel
theorem d_X11_drawDeed_107 : decode cX11_drawDeed 107 = .ok (.ireturn, 1) := by decide +kernel
theorem d_X11_drawn_0 : decode cX11_drawn 0 = .ok (.iload_n 1, 1) := by decide +kernel
theorem d_X11_drawn_1 : decode cX11_drawn 1 = .ok (.iconst 1, 1) := by decide +kernel
theorem d_X11_drawn_2 : decode cX11_drawn 2 = .ok (.if_icmp .lt 9, 3) := by decide +kernel
theorem d_X11_drawn_5 : decode cX11_drawn 5 = .ok (.iload_n 1, 1) := by decide +kernel
theorem d_X11_drawn_6 : decode cX11_drawn 6 = .ok (.bipush 60, 2) := by decide +kernel
theorem d_X11_drawn_8 : decode cX11_drawn 8 = .ok (.if_icmp .le 5, 3) := by decide +kernel
theorem d_X11_drawn_11 : decode cX11_drawn 11 = .ok (.iconst (-1), 1) := by decide +kernel
theorem d_X11_drawn_12 : decode cX11_drawn 12 = .ok (.ireturn, 1) := by decide +kernel
theorem d_X11_drawn_13 : decode cX11_drawn 13 = .ok (.aload_n 0, 1) := by decide +kernel
theorem d_X11_drawn_14 : decode cX11_drawn 14 = .ok (.getfield 10, 3) := by decide +kernel
theorem d_X11_drawn_17 : decode cX11_drawn 17 = .ok (.getfield 136, 3) := by decide +kernel
theorem d_X11_drawn_20 : decode cX11_drawn 20 = .ok (.ifCond .ne 5, 3) := by decide +kernel
theorem d_X11_drawn_23 : decode cX11_drawn 23 = .ok (.iconst 0, 1) := by decide +kernel
theorem d_X11_drawn_24 : decode cX11_drawn 24 = .ok (.ireturn, 1) := by decide +kernel
theorem d_X11_drawn_25 : decode cX11_drawn 25 = .ok (.aload_n 0, 1) := by decide +kernel
theorem d_X11_drawn_26 : decode cX11_drawn 26 = .ok (.iload_n 2, 1) := by decide +kernel
theorem d_X11_drawn_27 : decode cX11_drawn 27 = .ok (.putfield 327, 3) := by decide +kernel
theorem d_X11_drawn_30 : decode cX11_drawn 30 = .ok (.aload_n 0, 1) := by decide +kernel
theorem d_X11_drawn_31 : decode cX11_drawn 31 = .ok (.getfield 37, 3) := by decide +kernel
theorem d_X11_drawn_34 : decode cX11_drawn 34 = .ok (.invokevirtual 133, 3) := by decide +kernel
theorem d_X11_drawn_37 : decode cX11_drawn 37 = .ok (.iconst 0, 1) := by decide +kernel
theorem d_X11_drawn_38 : decode cX11_drawn 38 = .ok (.istore_n 3, 1) := by decide +kernel
theorem d_X11_drawn_39 : decode cX11_drawn 39 = .ok (.iconst 0, 1) := by decide +kernel
theorem d_X11_drawn_40 : decode cX11_drawn 40 = .ok (.istore 4, 2) := by decide +kernel
theorem d_X11_drawn_42 : decode cX11_drawn 42 = .ok (.iload 4, 2) := by decide +kernel
theorem d_X11_drawn_44 : decode cX11_drawn 44 = .ok (.iload_n 1, 1) := by decide +kernel
theorem d_X11_drawn_45 : decode cX11_drawn 45 = .ok (.if_icmp .ge 19, 3) := by decide +kernel
theorem d_X11_drawn_48 : decode cX11_drawn 48 = .ok (.aload_n 0, 1) := by decide +kernel
theorem d_X11_drawn_49 : decode cX11_drawn 49 = .ok (.invokevirtual 330, 3) := by decide +kernel
theorem d_X11_drawn_52 : decode cX11_drawn 52 = .ok (.ifCond .eq 6, 3) := by decide +kernel
theorem d_X11_drawn_55 : decode cX11_drawn 55 = .ok (.iinc 3 1, 3) := by decide +kernel
theorem d_X11_drawn_58 : decode cX11_drawn 58 = .ok (.iinc 4 1, 3) := by decide +kernel
theorem d_X11_drawn_61 : decode cX11_drawn 61 = .ok (.goto (-19), 3) := by decide +kernel
theorem d_X11_drawn_64 : decode cX11_drawn 64 = .ok (.iload_n 3, 1) := by decide +kernel
theorem d_X11_drawn_65 : decode cX11_drawn 65 = .ok (.ifCond .le 10, 3) := by decide +kernel
theorem d_X11_drawn_68 : decode cX11_drawn 68 = .ok (.aload_n 0, 1) := by decide +kernel
theorem d_X11_drawn_69 : decode cX11_drawn 69 = .ok (.getfield 37, 3) := by decide +kernel
theorem d_X11_drawn_72 : decode cX11_drawn 72 = .ok (.invokevirtual 143, 3) := by decide +kernel
theorem d_X11_drawn_75 : decode cX11_drawn 75 = .ok (.iload_n 3, 1) := by decide +kernel
theorem d_X11_drawn_76 : decode cX11_drawn 76 = .ok (.ireturn, 1) := by decide +kernel
theorem d_X12_thrown_0 : decode cX12_thrown 0 = .ok (.aload_n 0, 1) := by decide +kernel
theorem d_X12_thrown_1 : decode cX12_thrown 1 = .ok (.getfield 1, 3) := by decide +kernel
theorem d_X12_thrown_4 : decode cX12_thrown 4 = .ok (.ireturn, 1) := by decide +kernel
theorem d_X12_come_0 : decode cX12_come 0 = .ok (.bipush 24, 2) := by decide +kernel
theorem d_X12_come_2 : decode cX12_come 2 = .ok (.istore_n 2, 1) := by decide +kernel
theorem d_X12_come_3 : decode cX12_come 3 = .ok (.iload_n 2, 1) := by decide +kernel
theorem d_X12_come_4 : decode cX12_come 4 = .ok (.ifCond .lt 35, 3) := by decide +kernel
theorem d_X12_come_7 : decode cX12_come 7 = .ok (.aload_n 0, 1) := by decide +kernel
theorem d_X12_come_8 : decode cX12_come 8 = .ok (.getfield 11, 3) := by decide +kernel
theorem d_X12_come_11 : decode cX12_come 11 = .ok (.aload_n 0, 1) := by decide +kernel
theorem d_X12_come_12 : decode cX12_come 12 = .ok (.getfield 15, 3) := by decide +kernel
theorem d_X12_come_15 : decode cX12_come 15 = .ok (.iload_n 1, 1) := by decide +kernel
theorem d_X12_come_16 : decode cX12_come 16 = .ok (.iload_n 2, 1) := by decide +kernel
theorem d_X12_come_17 : decode cX12_come 17 = .ok (.iushr, 1) := by decide +kernel
theorem d_X12_come_18 : decode cX12_come 18 = .ok (.sipush 255, 3) := by decide +kernel
theorem d_X12_come_21 : decode cX12_come 21 = .ok (.iand, 1) := by decide +kernel
theorem d_X12_come_22 : decode cX12_come 22 = .ok (.iastore, 1) := by decide +kernel
theorem d_X12_come_23 : decode cX12_come 23 = .ok (.aload_n 0, 1) := by decide +kernel
theorem d_X12_come_24 : decode cX12_come 24 = .ok (.dup, 1) := by decide +kernel
theorem d_X12_come_25 : decode cX12_come 25 = .ok (.getfield 15, 3) := by decide +kernel
theorem d_X12_come_28 : decode cX12_come 28 = .ok (.iconst 1, 1) := by decide +kernel
theorem d_X12_come_29 : decode cX12_come 29 = .ok (.iadd, 1) := by decide +kernel
theorem d_X12_come_30 : decode cX12_come 30 = .ok (.putfield 15, 3) := by decide +kernel
theorem d_X12_come_33 : decode cX12_come 33 = .ok (.iinc 2 (-8), 3) := by decide +kernel
theorem d_X12_come_36 : decode cX12_come 36 = .ok (.goto (-33), 3) := by decide +kernel
theorem d_X12_come_39 : decode cX12_come 39 = .ok (.return_, 1) := by decide +kernel
theorem d_X12_feed_0 : decode cX12_feed 0 = .ok (.aload_n 0, 1) := by decide +kernel
theorem d_X12_feed_1 : decode cX12_feed 1 = .ok (.iconst 0, 1) := by decide +kernel
theorem d_X12_feed_2 : decode cX12_feed 2 = .ok (.putfield 1, 3) := by decide +kernel
theorem d_X12_feed_5 : decode cX12_feed 5 = .ok (.aload_n 0, 1) := by decide +kernel
theorem d_X12_feed_6 : decode cX12_feed 6 = .ok (.getfield 15, 3) := by decide +kernel
theorem d_X12_feed_9 : decode cX12_feed 9 = .ok (.bipush 20, 2) := by decide +kernel
theorem d_X12_feed_11 : decode cX12_feed 11 = .ok (.iadd, 1) := by decide +kernel
theorem d_X12_feed_12 : decode cX12_feed 12 = .ok (.sipush 640, 3) := by decide +kernel
theorem d_X12_feed_15 : decode cX12_feed 15 = .ok (.if_icmp .le 5, 3) := by decide +kernel
theorem d_X12_feed_18 : decode cX12_feed 18 = .ok (.iconst (-1), 1) := by decide +kernel
theorem d_X12_feed_19 : decode cX12_feed 19 = .ok (.ireturn, 1) := by decide +kernel
theorem d_X12_feed_20 : decode cX12_feed 20 = .ok (.aload_n 0, 1) := by decide +kernel
theorem d_X12_feed_21 : decode cX12_feed 21 = .ok (.iload_n 1, 1) := by decide +kernel
theorem d_X12_feed_22 : decode cX12_feed 22 = .ok (.invokevirtual 18, 3) := by decide +kernel
theorem d_X12_feed_25 : decode cX12_feed 25 = .ok (.aload_n 0, 1) := by decide +kernel
theorem d_X12_feed_26 : decode cX12_feed 26 = .ok (.iload_n 2, 1) := by decide +kernel
theorem d_X12_feed_27 : decode cX12_feed 27 = .ok (.invokevirtual 18, 3) := by decide +kernel
theorem d_X12_feed_30 : decode cX12_feed 30 = .ok (.aload_n 0, 1) := by decide +kernel
theorem d_X12_feed_31 : decode cX12_feed 31 = .ok (.iload_n 3, 1) := by decide +kernel
theorem d_X12_feed_32 : decode cX12_feed 32 = .ok (.invokevirtual 18, 3) := by decide +kernel
theorem d_X12_feed_35 : decode cX12_feed 35 = .ok (.aload_n 0, 1) := by decide +kernel
theorem d_X12_feed_36 : decode cX12_feed 36 = .ok (.iload 4, 2) := by decide +kernel
theorem d_X12_feed_38 : decode cX12_feed 38 = .ok (.invokevirtual 18, 3) := by decide +kernel
theorem d_X12_feed_41 : decode cX12_feed 41 = .ok (.aload_n 0, 1) := by decide +kernel
theorem d_X12_feed_42 : decode cX12_feed 42 = .ok (.iload 5, 2) := by decide +kernel
theorem d_X12_feed_44 : decode cX12_feed 44 = .ok (.invokevirtual 18, 3) := by decide +kernel
theorem d_X12_feed_47 : decode cX12_feed 47 = .ok (.aload_n 0, 1) := by decide +kernel
theorem d_X12_feed_48 : decode cX12_feed 48 = .ok (.getfield 15, 3) := by decide +kernel
theorem d_X12_feed_51 : decode cX12_feed 51 = .ok (.ireturn, 1) := by decide +kernel
theorem d_X12_end_0 : decode cX12_end 0 = .ok (.aload_n 0, 1) := by decide +kernel
theorem d_X12_end_1 : decode cX12_end 1 = .ok (.iconst 0, 1) := by decide +kernel
theorem d_X12_end_2 : decode cX12_end 2 = .ok (.putfield 1, 3) := by decide +kernel
theorem d_X12_end_5 : decode cX12_end 5 = .ok (.iload_n 1, 1) := by decide +kernel
theorem d_X12_end_6 : decode cX12_end 6 = .ok (.ifCond .lt 11, 3) := by decide +kernel
theorem d_X12_end_9 : decode cX12_end 9 = .ok (.iload_n 1, 1) := by decide +kernel
theorem d_X12_end_10 : decode cX12_end 10 = .ok (.aload_n 0, 1) := by decide +kernel
theorem d_X12_end_11 : decode cX12_end 11 = .ok (.getfield 15, 3) := by decide +kernel
theorem d_X12_end_14 : decode cX12_end 14 = .ok (.if_icmp .le 5, 3) := by decide +kernel
theorem d_X12_end_17 : decode cX12_end 17 = .ok (.iconst 0, 1) := by decide +kernel
theorem d_X12_end_18 : decode cX12_end 18 = .ok (.ireturn, 1) := by decide +kernel
theorem d_X12_end_19 : decode cX12_end 19 = .ok (.aload_n 0, 1) := by decide +kernel
theorem d_X12_end_20 : decode cX12_end 20 = .ok (.iload_n 1, 1) := by decide +kernel
theorem d_X12_end_21 : decode cX12_end 21 = .ok (.putfield 15, 3) := by decide +kernel
theorem d_X12_end_24 : decode cX12_end 24 = .ok (.iconst 1, 1) := by decide +kernel
theorem d_X12_end_25 : decode cX12_end 25 = .ok (.ireturn, 1) := by decide +kernel
theorem d_X12_isLetter_0 : decode cX12_isLetter 0 = .ok (.iload_n 0, 1) := by decide +kernel
theorem d_X12_isLetter_1 : decode cX12_isLetter 1 = .ok (.bipush 97, 2) := by decide +kernel
theorem d_X12_isLetter_3 : decode cX12_isLetter 3 = .ok (.if_icmp .lt 13, 3) := by decide +kernel
theorem d_X12_isLetter_6 : decode cX12_isLetter 6 = .ok (.iload_n 0, 1) := by decide +kernel
theorem d_X12_isLetter_7 : decode cX12_isLetter 7 = .ok (.bipush 122, 2) := by decide +kernel
theorem d_X12_isLetter_9 : decode cX12_isLetter 9 = .ok (.if_icmp .gt 7, 3) := by decide +kernel
theorem d_X12_isLetter_12 : decode cX12_isLetter 12 = .ok (.iconst 1, 1) := by decide +kernel
theorem d_X12_isLetter_13 : decode cX12_isLetter 13 = .ok (.goto 4, 3) := by decide +kernel
theorem d_X12_isLetter_16 : decode cX12_isLetter 16 = .ok (.iconst 0, 1) := by decide +kernel
theorem d_X12_isLetter_17 : decode cX12_isLetter 17 = .ok (.ireturn, 1) := by decide +kernel
theorem d_X12_isDigit_0 : decode cX12_isDigit 0 = .ok (.iload_n 0, 1) := by decide +kernel
theorem d_X12_isDigit_1 : decode cX12_isDigit 1 = .ok (.bipush 48, 2) := by decide +kernel
theorem d_X12_isDigit_3 : decode cX12_isDigit 3 = .ok (.if_icmp .lt 13, 3) := by decide +kernel
theorem d_X12_isDigit_6 : decode cX12_isDigit 6 = .ok (.iload_n 0, 1) := by decide +kernel
theorem d_X12_isDigit_7 : decode cX12_isDigit 7 = .ok (.bipush 57, 2) := by decide +kernel
theorem d_X12_isDigit_9 : decode cX12_isDigit 9 = .ok (.if_icmp .gt 7, 3) := by decide +kernel
theorem d_X12_isDigit_12 : decode cX12_isDigit 12 = .ok (.iconst 1, 1) := by decide +kernel
theorem d_X12_isDigit_13 : decode cX12_isDigit 13 = .ok (.goto 4, 3) := by decide +kernel
theorem d_X12_isDigit_16 : decode cX12_isDigit 16 = .ok (.iconst 0, 1) := by decide +kernel
theorem d_X12_isDigit_17 : decode cX12_isDigit 17 = .ok (.ireturn, 1) := by decide +kernel
theorem d_X12_tapeAt_0 : decode cX12_tapeAt 0 = .ok (.iload_n 1, 1) := by decide +kernel
theorem d_X12_tapeAt_1 : decode cX12_tapeAt 1 = .ok (.aload_n 0, 1) := by decide +kernel
theorem d_X12_tapeAt_2 : decode cX12_tapeAt 2 = .ok (.getfield 22, 3) := by decide +kernel
theorem d_X12_tapeAt_5 : decode cX12_tapeAt 5 = .ok (.if_icmp .ge 12, 3) := by decide +kernel
theorem d_X12_tapeAt_8 : decode cX12_tapeAt 8 = .ok (.aload_n 0, 1) := by decide +kernel
theorem d_X12_tapeAt_9 : decode cX12_tapeAt 9 = .ok (.getfield 11, 3) := by decide +kernel
theorem d_X12_tapeAt_12 : decode cX12_tapeAt 12 = .ok (.iload_n 1, 1) := by decide +kernel
theorem d_X12_tapeAt_13 : decode cX12_tapeAt 13 = .ok (.iaload, 1) := by decide +kernel
theorem d_X12_tapeAt_14 : decode cX12_tapeAt 14 = .ok (.goto 4, 3) := by decide +kernel
theorem d_X12_tapeAt_17 : decode cX12_tapeAt 17 = .ok (.iconst 0, 1) := by decide +kernel
theorem d_X12_tapeAt_18 : decode cX12_tapeAt 18 = .ok (.ireturn, 1) := by decide +kernel
theorem d_X12_go_0 : decode cX12_go 0 = .ok (.aload_n 0, 1) := by decide +kernel
theorem d_X12_go_1 : decode cX12_go 1 = .ok (.getfield 25, 3) := by decide +kernel
theorem d_X12_go_4 : decode cX12_go 4 = .ok (.aload_n 0, 1) := by decide +kernel
theorem d_X12_go_5 : decode cX12_go 5 = .ok (.getfield 22, 3) := by decide +kernel
theorem d_X12_go_8 : decode cX12_go 8 = .ok (.if_icmp .ge 44, 3) := by decide +kernel
theorem d_X12_go_11 : decode cX12_go 11 = .ok (.aload_n 0, 1) := by decide +kernel
theorem d_X12_go_12 : decode cX12_go 12 = .ok (.getfield 11, 3) := by decide +kernel
theorem d_X12_go_15 : decode cX12_go 15 = .ok (.aload_n 0, 1) := by decide +kernel
theorem d_X12_go_16 : decode cX12_go 16 = .ok (.getfield 25, 3) := by decide +kernel
theorem d_X12_go_19 : decode cX12_go 19 = .ok (.iaload, 1) := by decide +kernel
theorem d_X12_go_20 : decode cX12_go 20 = .ok (.bipush 32, 2) := by decide +kernel
theorem d_X12_go_22 : decode cX12_go 22 = .ok (.if_icmp .eq 17, 3) := by decide +kernel
theorem d_X12_go_25 : decode cX12_go 25 = .ok (.aload_n 0, 1) := by decide +kernel
theorem d_X12_go_26 : decode cX12_go 26 = .ok (.getfield 11, 3) := by decide +kernel
theorem d_X12_go_29 : decode cX12_go 29 = .ok (.aload_n 0, 1) := by decide +kernel
theorem d_X12_go_30 : decode cX12_go 30 = .ok (.getfield 25, 3) := by decide +kernel
theorem d_X12_go_33 : decode cX12_go 33 = .ok (.iaload, 1) := by decide +kernel
theorem d_X12_go_34 : decode cX12_go 34 = .ok (.bipush 10, 2) := by decide +kernel
theorem d_X12_go_36 : decode cX12_go 36 = .ok (.if_icmp .ne 16, 3) := by decide +kernel
theorem d_X12_go_39 : decode cX12_go 39 = .ok (.aload_n 0, 1) := by decide +kernel
theorem d_X12_go_40 : decode cX12_go 40 = .ok (.dup, 1) := by decide +kernel
theorem d_X12_go_41 : decode cX12_go 41 = .ok (.getfield 25, 3) := by decide +kernel
theorem d_X12_go_44 : decode cX12_go 44 = .ok (.iconst 1, 1) := by decide +kernel
theorem d_X12_go_45 : decode cX12_go 45 = .ok (.iadd, 1) := by decide +kernel
theorem d_X12_go_46 : decode cX12_go 46 = .ok (.putfield 25, 3) := by decide +kernel
theorem d_X12_go_49 : decode cX12_go 49 = .ok (.goto (-49), 3) := by decide +kernel
theorem d_X12_go_52 : decode cX12_go 52 = .ok (.aload_n 0, 1) := by decide +kernel
theorem d_X12_go_53 : decode cX12_go 53 = .ok (.aload_n 0, 1) := by decide +kernel
theorem d_X12_go_54 : decode cX12_go 54 = .ok (.getfield 25, 3) := by decide +kernel
theorem d_X12_go_57 : decode cX12_go 57 = .ok (.putfield 28, 3) := by decide +kernel
theorem d_X12_go_60 : decode cX12_go 60 = .ok (.aload_n 0, 1) := by decide +kernel
theorem d_X12_go_61 : decode cX12_go 61 = .ok (.getfield 22, 3) := by decide +kernel
theorem d_X12_go_64 : decode cX12_go 64 = .ok (.sipush 600, 3) := by decide +kernel
theorem d_X12_go_67 : decode cX12_go 67 = .ok (.if_icmp .le 26, 3) := by decide +kernel
theorem d_X12_go_70 : decode cX12_go 70 = .ok (.aload_n 0, 1) := by decide +kernel
theorem d_X12_go_71 : decode cX12_go 71 = .ok (.getfield 28, 3) := by decide +kernel
theorem d_X12_go_74 : decode cX12_go 74 = .ok (.sipush 600, 3) := by decide +kernel
theorem d_X12_go_77 : decode cX12_go 77 = .ok (.if_icmp .lt 16, 3) := by decide +kernel
theorem d_X12_go_80 : decode cX12_go 80 = .ok (.aload_n 0, 1) := by decide +kernel
theorem d_X12_go_81 : decode cX12_go 81 = .ok (.sipush 600, 3) := by decide +kernel
theorem d_X12_go_84 : decode cX12_go 84 = .ok (.putfield 28, 3) := by decide +kernel
theorem d_X12_go_87 : decode cX12_go 87 = .ok (.aload_n 0, 1) := by decide +kernel
theorem d_X12_go_88 : decode cX12_go 88 = .ok (.iconst 1, 1) := by decide +kernel
theorem d_X12_go_89 : decode cX12_go 89 = .ok (.putfield 31, 3) := by decide +kernel
theorem d_X12_go_92 : decode cX12_go 92 = .ok (.return_, 1) := by decide +kernel
theorem d_X12_go_93 : decode cX12_go 93 = .ok (.aload_n 0, 1) := by decide +kernel
theorem d_X12_go_94 : decode cX12_go 94 = .ok (.getfield 25, 3) := by decide +kernel
theorem d_X12_go_97 : decode cX12_go 97 = .ok (.aload_n 0, 1) := by decide +kernel
theorem d_X12_go_98 : decode cX12_go 98 = .ok (.getfield 22, 3) := by decide +kernel
theorem d_X12_go_101 : decode cX12_go 101 = .ok (.if_icmp .lt 9, 3) := by decide +kernel
theorem d_X12_go_104 : decode cX12_go 104 = .ok (.aload_n 0, 1) := by decide +kernel
theorem d_X12_go_105 : decode cX12_go 105 = .ok (.iconst 0, 1) := by decide +kernel
theorem d_X12_go_106 : decode cX12_go 106 = .ok (.putfield 31, 3) := by decide +kernel
theorem d_X12_go_109 : decode cX12_go 109 = .ok (.return_, 1) := by decide +kernel
theorem d_X12_go_110 : decode cX12_go 110 = .ok (.aload_n 0, 1) := by decide +kernel
theorem d_X12_go_111 : decode cX12_go 111 = .ok (.getfield 11, 3) := by decide +kernel
theorem d_X12_go_114 : decode cX12_go 114 = .ok (.aload_n 0, 1) := by decide +kernel
theorem d_X12_go_115 : decode cX12_go 115 = .ok (.getfield 25, 3) := by decide +kernel
theorem d_X12_go_118 : decode cX12_go 118 = .ok (.iaload, 1) := by decide +kernel
theorem d_X12_go_119 : decode cX12_go 119 = .ok (.istore_n 1, 1) := by decide +kernel
theorem d_X12_go_120 : decode cX12_go 120 = .ok (.iload_n 1, 1) := by decide +kernel
theorem d_X12_go_121 : decode cX12_go 121 = .ok (.invokestatic 34, 3) := by decide +kernel
theorem d_X12_go_124 : decode cX12_go 124 = .ok (.ifCond .ne 36, 3) := by decide +kernel
theorem d_X12_go_127 : decode cX12_go 127 = .ok (.iload_n 1, 1) := by decide +kernel
theorem d_X12_go_128 : decode cX12_go 128 = .ok (.invokestatic 38, 3) := by decide +kernel
theorem d_X12_go_131 : decode cX12_go 131 = .ok (.ifCond .ne 29, 3) := by decide +kernel
theorem d_X12_go_134 : decode cX12_go 134 = .ok (.aload_n 0, 1) := by decide +kernel
theorem d_X12_go_135 : decode cX12_go 135 = .ok (.iload_n 1, 1) := by decide +kernel
theorem d_X12_go_136 : decode cX12_go 136 = .ok (.bipush 59, 2) := by decide +kernel
theorem d_X12_go_138 : decode cX12_go 138 = .ok (.if_icmp .ne 7, 3) := by decide +kernel
theorem d_X12_go_141 : decode cX12_go 141 = .ok (.iconst 4, 1) := by decide +kernel
theorem d_X12_go_142 : decode cX12_go 142 = .ok (.goto 4, 3) := by decide +kernel
theorem d_X12_go_145 : decode cX12_go 145 = .ok (.iconst 1, 1) := by decide +kernel
theorem d_X12_go_146 : decode cX12_go 146 = .ok (.putfield 31, 3) := by decide +kernel
theorem d_X12_go_149 : decode cX12_go 149 = .ok (.aload_n 0, 1) := by decide +kernel
theorem d_X12_go_150 : decode cX12_go 150 = .ok (.dup, 1) := by decide +kernel
theorem d_X12_go_151 : decode cX12_go 151 = .ok (.getfield 25, 3) := by decide +kernel
theorem d_X12_go_154 : decode cX12_go 154 = .ok (.iconst 1, 1) := by decide +kernel
theorem d_X12_go_155 : decode cX12_go 155 = .ok (.iadd, 1) := by decide +kernel
theorem d_X12_go_156 : decode cX12_go 156 = .ok (.putfield 25, 3) := by decide +kernel
theorem d_X12_go_159 : decode cX12_go 159 = .ok (.return_, 1) := by decide +kernel
theorem d_X12_go_160 : decode cX12_go 160 = .ok (.iload_n 1, 1) := by decide +kernel
theorem d_X12_go_161 : decode cX12_go 161 = .ok (.invokestatic 34, 3) := by decide +kernel
theorem d_X12_go_164 : decode cX12_go 164 = .ok (.istore_n 2, 1) := by decide +kernel
theorem d_X12_go_165 : decode cX12_go 165 = .ok (.iconst 1, 1) := by decide +kernel
theorem d_X12_go_166 : decode cX12_go 166 = .ok (.istore_n 3, 1) := by decide +kernel
theorem d_X12_go_167 : decode cX12_go 167 = .ok (.aload_n 0, 1) := by decide +kernel
theorem d_X12_go_168 : decode cX12_go 168 = .ok (.lconst 0, 1) := by decide +kernel
theorem d_X12_go_169 : decode cX12_go 169 = .ok (.putfield 41, 3) := by decide +kernel
theorem d_X12_go_172 : decode cX12_go 172 = .ok (.aload_n 0, 1) := by decide +kernel
theorem d_X12_go_173 : decode cX12_go 173 = .ok (.iconst 0, 1) := by decide +kernel
theorem d_X12_go_174 : decode cX12_go 174 = .ok (.putfield 45, 3) := by decide +kernel
theorem d_X12_go_177 : decode cX12_go 177 = .ok (.aload_n 0, 1) := by decide +kernel
theorem d_X12_go_178 : decode cX12_go 178 = .ok (.aload_n 0, 1) := by decide +kernel
theorem d_X12_go_179 : decode cX12_go 179 = .ok (.getfield 25, 3) := by decide +kernel
theorem d_X12_go_182 : decode cX12_go 182 = .ok (.invokevirtual 48, 3) := by decide +kernel
theorem d_X12_go_185 : decode cX12_go 185 = .ok (.invokestatic 34, 3) := by decide +kernel
theorem d_X12_go_188 : decode cX12_go 188 = .ok (.ifCond .ne 17, 3) := by decide +kernel
theorem d_X12_go_191 : decode cX12_go 191 = .ok (.aload_n 0, 1) := by decide +kernel
theorem d_X12_go_192 : decode cX12_go 192 = .ok (.aload_n 0, 1) := by decide +kernel
theorem d_X12_go_193 : decode cX12_go 193 = .ok (.getfield 25, 3) := by decide +kernel
theorem d_X12_go_196 : decode cX12_go 196 = .ok (.invokevirtual 48, 3) := by decide +kernel
theorem d_X12_go_199 : decode cX12_go 199 = .ok (.invokestatic 38, 3) := by decide +kernel
theorem d_X12_go_202 : decode cX12_go 202 = .ok (.ifCond .eq 110, 3) := by decide +kernel
theorem d_X12_go_205 : decode cX12_go 205 = .ok (.aload_n 0, 1) := by decide +kernel
theorem d_X12_go_206 : decode cX12_go 206 = .ok (.getfield 11, 3) := by decide +kernel
theorem d_X12_go_209 : decode cX12_go 209 = .ok (.aload_n 0, 1) := by decide +kernel
theorem d_X12_go_210 : decode cX12_go 210 = .ok (.getfield 25, 3) := by decide +kernel
theorem d_X12_go_213 : decode cX12_go 213 = .ok (.iaload, 1) := by decide +kernel
theorem d_X12_go_214 : decode cX12_go 214 = .ok (.istore 4, 2) := by decide +kernel
theorem d_X12_go_216 : decode cX12_go 216 = .ok (.iload_n 3, 1) := by decide +kernel
theorem d_X12_go_217 : decode cX12_go 217 = .ok (.ifCond .eq 16, 3) := by decide +kernel
theorem d_X12_go_220 : decode cX12_go 220 = .ok (.iload 4, 2) := by decide +kernel
theorem d_X12_go_222 : decode cX12_go 222 = .ok (.invokestatic 34, 3) := by decide +kernel
theorem d_X12_go_225 : decode cX12_go 225 = .ok (.iload_n 2, 1) := by decide +kernel
theorem d_X12_go_226 : decode cX12_go 226 = .ok (.if_icmp .ne 7, 3) := by decide +kernel
theorem d_X12_go_229 : decode cX12_go 229 = .ok (.iconst 1, 1) := by decide +kernel
theorem d_X12_go_230 : decode cX12_go 230 = .ok (.goto 4, 3) := by decide +kernel
theorem d_X12_go_233 : decode cX12_go 233 = .ok (.iconst 0, 1) := by decide +kernel
theorem d_X12_go_234 : decode cX12_go 234 = .ok (.istore_n 3, 1) := by decide +kernel
theorem d_X12_go_235 : decode cX12_go 235 = .ok (.aload_n 0, 1) := by decide +kernel
theorem d_X12_go_236 : decode cX12_go 236 = .ok (.getfield 25, 3) := by decide +kernel
theorem d_X12_go_239 : decode cX12_go 239 = .ok (.aload_n 0, 1) := by decide +kernel
theorem d_X12_go_240 : decode cX12_go 240 = .ok (.getfield 28, 3) := by decide +kernel
theorem d_X12_go_243 : decode cX12_go 243 = .ok (.isub, 1) := by decide +kernel
theorem d_X12_go_244 : decode cX12_go 244 = .ok (.bipush 7, 2) := by decide +kernel
theorem d_X12_go_246 : decode cX12_go 246 = .ok (.if_icmp .ge 23, 3) := by decide +kernel
theorem d_X12_go_249 : decode cX12_go 249 = .ok (.aload_n 0, 1) := by decide +kernel
theorem d_X12_go_250 : decode cX12_go 250 = .ok (.ldc2_w 52, 3) := by decide +kernel
theorem d_X12_go_253 : decode cX12_go 253 = .ok (.aload_n 0, 1) := by decide +kernel
theorem d_X12_go_254 : decode cX12_go 254 = .ok (.getfield 41, 3) := by decide +kernel
theorem d_X12_go_257 : decode cX12_go 257 = .ok (.lmul, 1) := by decide +kernel
theorem d_X12_go_258 : decode cX12_go 258 = .ok (.iload 4, 2) := by decide +kernel
theorem d_X12_go_260 : decode cX12_go 260 = .ok (.i2l, 1) := by decide +kernel
theorem d_X12_go_261 : decode cX12_go 261 = .ok (.ladd, 1) := by decide +kernel
theorem d_X12_go_262 : decode cX12_go 262 = .ok (.ldc2_w 54, 3) := by decide +kernel
theorem d_X12_go_265 : decode cX12_go 265 = .ok (.lsub, 1) := by decide +kernel
theorem d_X12_go_266 : decode cX12_go 266 = .ok (.putfield 41, 3) := by decide +kernel
theorem d_X12_go_269 : decode cX12_go 269 = .ok (.aload_n 0, 1) := by decide +kernel
theorem d_X12_go_270 : decode cX12_go 270 = .ok (.getfield 25, 3) := by decide +kernel
theorem d_X12_go_273 : decode cX12_go 273 = .ok (.aload_n 0, 1) := by decide +kernel
theorem d_X12_go_274 : decode cX12_go 274 = .ok (.getfield 28, 3) := by decide +kernel
theorem d_X12_go_277 : decode cX12_go 277 = .ok (.isub, 1) := by decide +kernel
theorem d_X12_go_278 : decode cX12_go 278 = .ok (.iconst 2, 1) := by decide +kernel
theorem d_X12_go_279 : decode cX12_go 279 = .ok (.if_icmp .ge 20, 3) := by decide +kernel
theorem d_X12_go_282 : decode cX12_go 282 = .ok (.aload_n 0, 1) := by decide +kernel
theorem d_X12_go_283 : decode cX12_go 283 = .ok (.bipush 10, 2) := by decide +kernel
theorem d_X12_go_285 : decode cX12_go 285 = .ok (.aload_n 0, 1) := by decide +kernel
theorem d_X12_go_286 : decode cX12_go 286 = .ok (.getfield 45, 3) := by decide +kernel
theorem d_X12_go_289 : decode cX12_go 289 = .ok (.imul, 1) := by decide +kernel
theorem d_X12_go_290 : decode cX12_go 290 = .ok (.iload 4, 2) := by decide +kernel
theorem d_X12_go_292 : decode cX12_go 292 = .ok (.iadd, 1) := by decide +kernel
theorem d_X12_go_293 : decode cX12_go 293 = .ok (.bipush 48, 2) := by decide +kernel
theorem d_X12_go_295 : decode cX12_go 295 = .ok (.isub, 1) := by decide +kernel
theorem d_X12_go_296 : decode cX12_go 296 = .ok (.putfield 45, 3) := by decide +kernel
theorem d_X12_go_299 : decode cX12_go 299 = .ok (.aload_n 0, 1) := by decide +kernel
theorem d_X12_go_300 : decode cX12_go 300 = .ok (.dup, 1) := by decide +kernel
theorem d_X12_go_301 : decode cX12_go 301 = .ok (.getfield 25, 3) := by decide +kernel
theorem d_X12_go_304 : decode cX12_go 304 = .ok (.iconst 1, 1) := by decide +kernel
theorem d_X12_go_305 : decode cX12_go 305 = .ok (.iadd, 1) := by decide +kernel
theorem d_X12_go_306 : decode cX12_go 306 = .ok (.putfield 25, 3) := by decide +kernel
theorem d_X12_go_309 : decode cX12_go 309 = .ok (.goto (-132), 3) := by decide +kernel
theorem d_X12_go_312 : decode cX12_go 312 = .ok (.aload_n 0, 1) := by decide +kernel
theorem d_X12_go_313 : decode cX12_go 313 = .ok (.iload_n 3, 1) := by decide +kernel
theorem d_X12_go_314 : decode cX12_go 314 = .ok (.ifCond .eq 25, 3) := by decide +kernel
theorem d_X12_go_317 : decode cX12_go 317 = .ok (.aload_n 0, 1) := by decide +kernel
theorem d_X12_go_318 : decode cX12_go 318 = .ok (.getfield 25, 3) := by decide +kernel
theorem d_X12_go_321 : decode cX12_go 321 = .ok (.aload_n 0, 1) := by decide +kernel
theorem d_X12_go_322 : decode cX12_go 322 = .ok (.getfield 28, 3) := by decide +kernel
theorem d_X12_go_325 : decode cX12_go 325 = .ok (.isub, 1) := by decide +kernel
theorem d_X12_go_326 : decode cX12_go 326 = .ok (.iload_n 2, 1) := by decide +kernel
theorem d_X12_go_327 : decode cX12_go 327 = .ok (.ifCond .eq 8, 3) := by decide +kernel
theorem d_X12_go_330 : decode cX12_go 330 = .ok (.bipush 7, 2) := by decide +kernel
theorem d_X12_go_332 : decode cX12_go 332 = .ok (.goto 4, 3) := by decide +kernel
theorem d_X12_go_335 : decode cX12_go 335 = .ok (.iconst 2, 1) := by decide +kernel
theorem d_X12_go_336 : decode cX12_go 336 = .ok (.if_icmp .le 7, 3) := by decide +kernel
theorem d_X12_go_339 : decode cX12_go 339 = .ok (.iconst 1, 1) := by decide +kernel
theorem d_X12_go_340 : decode cX12_go 340 = .ok (.goto 12, 3) := by decide +kernel
theorem d_X12_go_343 : decode cX12_go 343 = .ok (.iload_n 2, 1) := by decide +kernel
theorem d_X12_go_344 : decode cX12_go 344 = .ok (.ifCond .eq 7, 3) := by decide +kernel
theorem d_X12_go_347 : decode cX12_go 347 = .ok (.iconst 2, 1) := by decide +kernel
theorem d_X12_go_348 : decode cX12_go 348 = .ok (.goto 4, 3) := by decide +kernel
theorem d_X12_go_351 : decode cX12_go 351 = .ok (.iconst 3, 1) := by decide +kernel
theorem d_X12_go_352 : decode cX12_go 352 = .ok (.putfield 31, 3) := by decide +kernel
theorem d_X12_go_355 : decode cX12_go 355 = .ok (.return_, 1) := by decide +kernel
theorem d_X12_copy_0 : decode cX12_copy 0 = .ok (.iconst 0, 1) := by decide +kernel
theorem d_X12_copy_1 : decode cX12_copy 1 = .ok (.istore 4, 2) := by decide +kernel
theorem d_X12_copy_3 : decode cX12_copy 3 = .ok (.iload 4, 2) := by decide +kernel
theorem d_X12_copy_5 : decode cX12_copy 5 = .ok (.sipush 147, 3) := by decide +kernel
theorem d_X12_copy_8 : decode cX12_copy 8 = .ok (.if_icmp .ge 21, 3) := by decide +kernel
theorem d_X12_copy_11 : decode cX12_copy 11 = .ok (.aload_n 2, 1) := by decide +kernel
theorem d_X12_copy_12 : decode cX12_copy 12 = .ok (.iload_n 3, 1) := by decide +kernel
theorem d_X12_copy_13 : decode cX12_copy 13 = .ok (.iload 4, 2) := by decide +kernel
theorem d_X12_copy_15 : decode cX12_copy 15 = .ok (.iadd, 1) := by decide +kernel
theorem d_X12_copy_16 : decode cX12_copy 16 = .ok (.aload_n 0, 1) := by decide +kernel
theorem d_X12_copy_17 : decode cX12_copy 17 = .ok (.iload_n 1, 1) := by decide +kernel
theorem d_X12_copy_18 : decode cX12_copy 18 = .ok (.iload 4, 2) := by decide +kernel
theorem d_X12_copy_20 : decode cX12_copy 20 = .ok (.iadd, 1) := by decide +kernel
theorem d_X12_copy_21 : decode cX12_copy 21 = .ok (.iaload, 1) := by decide +kernel
theorem d_X12_copy_22 : decode cX12_copy 22 = .ok (.iastore, 1) := by decide +kernel
theorem d_X12_copy_23 : decode cX12_copy 23 = .ok (.iinc 4 1, 3) := by decide +kernel
theorem d_X12_copy_26 : decode cX12_copy 26 = .ok (.goto (-23), 3) := by decide +kernel
theorem d_X12_copy_29 : decode cX12_copy 29 = .ok (.return_, 1) := by decide +kernel
theorem d_X12_spelt_0 : decode cX12_spelt 0 = .ok (.ldc2_w 52, 3) := by decide +kernel
theorem d_X12_spelt_3 : decode cX12_spelt 3 = .ok (.ldc2_w 52, 3) := by decide +kernel
theorem d_X12_spelt_6 : decode cX12_spelt 6 = .ok (.ldc2_w 52, 3) := by decide +kernel
theorem d_X12_spelt_9 : decode cX12_spelt 9 = .ok (.iload_n 0, 1) := by decide +kernel
theorem d_X12_spelt_10 : decode cX12_spelt 10 = .ok (.i2l, 1) := by decide +kernel
theorem d_X12_spelt_11 : decode cX12_spelt 11 = .ok (.ldc2_w 54, 3) := by decide +kernel
theorem d_X12_spelt_14 : decode cX12_spelt 14 = .ok (.lsub, 1) := by decide +kernel
theorem d_X12_spelt_15 : decode cX12_spelt 15 = .ok (.lmul, 1) := by decide +kernel
theorem d_X12_spelt_16 : decode cX12_spelt 16 = .ok (.iload_n 1, 1) := by decide +kernel
theorem d_X12_spelt_17 : decode cX12_spelt 17 = .ok (.i2l, 1) := by decide +kernel
theorem d_X12_spelt_18 : decode cX12_spelt 18 = .ok (.ladd, 1) := by decide +kernel
theorem d_X12_spelt_19 : decode cX12_spelt 19 = .ok (.ldc2_w 54, 3) := by decide +kernel
theorem d_X12_spelt_22 : decode cX12_spelt 22 = .ok (.lsub, 1) := by decide +kernel
theorem d_X12_spelt_23 : decode cX12_spelt 23 = .ok (.lmul, 1) := by decide +kernel
theorem d_X12_spelt_24 : decode cX12_spelt 24 = .ok (.iload_n 2, 1) := by decide +kernel
theorem d_X12_spelt_25 : decode cX12_spelt 25 = .ok (.i2l, 1) := by decide +kernel
theorem d_X12_spelt_26 : decode cX12_spelt 26 = .ok (.ladd, 1) := by decide +kernel
theorem d_X12_spelt_27 : decode cX12_spelt 27 = .ok (.ldc2_w 54, 3) := by decide +kernel
theorem d_X12_spelt_30 : decode cX12_spelt 30 = .ok (.lsub, 1) := by decide +kernel
theorem d_X12_spelt_31 : decode cX12_spelt 31 = .ok (.lmul, 1) := by decide +kernel
theorem d_X12_spelt_32 : decode cX12_spelt 32 = .ok (.iload_n 3, 1) := by decide +kernel
theorem d_X12_spelt_33 : decode cX12_spelt 33 = .ok (.i2l, 1) := by decide +kernel
theorem d_X12_spelt_34 : decode cX12_spelt 34 = .ok (.ladd, 1) := by decide +kernel
theorem d_X12_spelt_35 : decode cX12_spelt 35 = .ok (.ldc2_w 54, 3) := by decide +kernel
theorem d_X12_spelt_38 : decode cX12_spelt 38 = .ok (.lsub, 1) := by decide +kernel
theorem d_X12_spelt_39 : decode cX12_spelt 39 = .ok (.lstore 7, 2) := by decide +kernel
theorem d_X12_spelt_41 : decode cX12_spelt 41 = .ok (.iload 4, 2) := by decide +kernel
theorem d_X12_spelt_43 : decode cX12_spelt 43 = .ok (.ifCond .le 19, 3) := by decide +kernel
theorem d_X12_spelt_46 : decode cX12_spelt 46 = .ok (.ldc2_w 52, 3) := by decide +kernel
theorem d_X12_spelt_49 : decode cX12_spelt 49 = .ok (.lload 7, 2) := by decide +kernel
theorem d_X12_spelt_51 : decode cX12_spelt 51 = .ok (.lmul, 1) := by decide +kernel
theorem d_X12_spelt_52 : decode cX12_spelt 52 = .ok (.iload 4, 2) := by decide +kernel
theorem d_X12_spelt_54 : decode cX12_spelt 54 = .ok (.i2l, 1) := by decide +kernel
theorem d_X12_spelt_55 : decode cX12_spelt 55 = .ok (.ladd, 1) := by decide +kernel
theorem d_X12_spelt_56 : decode cX12_spelt 56 = .ok (.ldc2_w 54, 3) := by decide +kernel
theorem d_X12_spelt_59 : decode cX12_spelt 59 = .ok (.lsub, 1) := by decide +kernel
theorem d_X12_spelt_60 : decode cX12_spelt 60 = .ok (.lstore 7, 2) := by decide +kernel
theorem d_X12_spelt_62 : decode cX12_spelt 62 = .ok (.iload 5, 2) := by decide +kernel
theorem d_X12_spelt_64 : decode cX12_spelt 64 = .ok (.ifCond .le 19, 3) := by decide +kernel
theorem d_X12_spelt_67 : decode cX12_spelt 67 = .ok (.ldc2_w 52, 3) := by decide +kernel
theorem d_X12_spelt_70 : decode cX12_spelt 70 = .ok (.lload 7, 2) := by decide +kernel
theorem d_X12_spelt_72 : decode cX12_spelt 72 = .ok (.lmul, 1) := by decide +kernel
theorem d_X12_spelt_73 : decode cX12_spelt 73 = .ok (.iload 5, 2) := by decide +kernel
theorem d_X12_spelt_75 : decode cX12_spelt 75 = .ok (.i2l, 1) := by decide +kernel
theorem d_X12_spelt_76 : decode cX12_spelt 76 = .ok (.ladd, 1) := by decide +kernel
theorem d_X12_spelt_77 : decode cX12_spelt 77 = .ok (.ldc2_w 54, 3) := by decide +kernel
theorem d_X12_spelt_80 : decode cX12_spelt 80 = .ok (.lsub, 1) := by decide +kernel
theorem d_X12_spelt_81 : decode cX12_spelt 81 = .ok (.lstore 7, 2) := by decide +kernel
theorem d_X12_spelt_83 : decode cX12_spelt 83 = .ok (.iload 6, 2) := by decide +kernel
theorem d_X12_spelt_85 : decode cX12_spelt 85 = .ok (.ifCond .le 19, 3) := by decide +kernel
theorem d_X12_spelt_88 : decode cX12_spelt 88 = .ok (.ldc2_w 52, 3) := by decide +kernel
theorem d_X12_spelt_91 : decode cX12_spelt 91 = .ok (.lload 7, 2) := by decide +kernel
theorem d_X12_spelt_93 : decode cX12_spelt 93 = .ok (.lmul, 1) := by decide +kernel
theorem d_X12_spelt_94 : decode cX12_spelt 94 = .ok (.iload 6, 2) := by decide +kernel
theorem d_X12_spelt_96 : decode cX12_spelt 96 = .ok (.i2l, 1) := by decide +kernel
theorem d_X12_spelt_97 : decode cX12_spelt 97 = .ok (.ladd, 1) := by decide +kernel
theorem d_X12_spelt_98 : decode cX12_spelt 98 = .ok (.ldc2_w 54, 3) := by decide +kernel
theorem d_X12_spelt_101 : decode cX12_spelt 101 = .ok (.lsub, 1) := by decide +kernel
theorem d_X12_spelt_102 : decode cX12_spelt 102 = .ok (.lstore 7, 2) := by decide +kernel
theorem d_X12_spelt_104 : decode cX12_spelt 104 = .ok (.lload 7, 2) := by decide +kernel
theorem d_X12_spelt_106 : decode cX12_spelt 106 = .ok (.lreturn, 1) := by decide +kernel
theorem d_X12_isWord_0 : decode cX12_isWord 0 = .ok (.aload_n 0, 1) := by decide +kernel
theorem d_X12_isWord_1 : decode cX12_isWord 1 = .ok (.getfield 31, 3) := by decide +kernel
theorem d_X12_isWord_4 : decode cX12_isWord 4 = .ok (.iconst 2, 1) := by decide +kernel
theorem d_X12_isWord_5 : decode cX12_isWord 5 = .ok (.if_icmp .ne 16, 3) := by decide +kernel
theorem d_X12_isWord_8 : decode cX12_isWord 8 = .ok (.aload_n 0, 1) := by decide +kernel
theorem d_X12_isWord_9 : decode cX12_isWord 9 = .ok (.getfield 41, 3) := by decide +kernel
theorem d_X12_isWord_12 : decode cX12_isWord 12 = .ok (.lload_n 1, 1) := by decide +kernel
theorem d_X12_isWord_13 : decode cX12_isWord 13 = .ok (.lcmp, 1) := by decide +kernel
theorem d_X12_isWord_14 : decode cX12_isWord 14 = .ok (.ifCond .ne 7, 3) := by decide +kernel
theorem d_X12_isWord_17 : decode cX12_isWord 17 = .ok (.iconst 1, 1) := by decide +kernel
theorem d_X12_isWord_18 : decode cX12_isWord 18 = .ok (.goto 4, 3) := by decide +kernel
theorem d_X12_isWord_21 : decode cX12_isWord 21 = .ok (.iconst 0, 1) := by decide +kernel
theorem d_X12_isWord_22 : decode cX12_isWord 22 = .ok (.ireturn, 1) := by decide +kernel
theorem d_X12_isPointWord_0 : decode cX12_isPointWord 0 = .ok (.aload_n 0, 1) := by decide +kernel
theorem d_X12_isPointWord_1 : decode cX12_isPointWord 1 = .ok (.bipush 112, 2) := by decide +kernel
theorem d_X12_isPointWord_3 : decode cX12_isPointWord 3 = .ok (.bipush 111, 2) := by decide +kernel
theorem d_X12_isPointWord_5 : decode cX12_isPointWord 5 = .ok (.bipush 105, 2) := by decide +kernel
theorem d_X12_isPointWord_7 : decode cX12_isPointWord 7 = .ok (.bipush 110, 2) := by decide +kernel
theorem d_X12_isPointWord_9 : decode cX12_isPointWord 9 = .ok (.bipush 116, 2) := by decide +kernel
theorem d_X12_isPointWord_11 : decode cX12_isPointWord 11 = .ok (.iconst 0, 1) := by decide +kernel
theorem d_X12_isPointWord_12 : decode cX12_isPointWord 12 = .ok (.iconst 0, 1) := by decide +kernel
theorem d_X12_isPointWord_13 : decode cX12_isPointWord 13 = .ok (.invokestatic 56, 3) := by decide +kernel
theorem d_X12_isPointWord_16 : decode cX12_isPointWord 16 = .ok (.invokevirtual 60, 3) := by decide +kernel
theorem d_X12_isPointWord_19 : decode cX12_isPointWord 19 = .ok (.ireturn, 1) := by decide +kernel
theorem d_X12_isLineWord_0 : decode cX12_isLineWord 0 = .ok (.aload_n 0, 1) := by decide +kernel
theorem d_X12_isLineWord_1 : decode cX12_isLineWord 1 = .ok (.bipush 108, 2) := by decide +kernel
theorem d_X12_isLineWord_3 : decode cX12_isLineWord 3 = .ok (.bipush 105, 2) := by decide +kernel
theorem d_X12_isLineWord_5 : decode cX12_isLineWord 5 = .ok (.bipush 110, 2) := by decide +kernel
theorem d_X12_isLineWord_7 : decode cX12_isLineWord 7 = .ok (.bipush 101, 2) := by decide +kernel
theorem d_X12_isLineWord_9 : decode cX12_isLineWord 9 = .ok (.iconst 0, 1) := by decide +kernel
theorem d_X12_isLineWord_10 : decode cX12_isLineWord 10 = .ok (.iconst 0, 1) := by decide +kernel
theorem d_X12_isLineWord_11 : decode cX12_isLineWord 11 = .ok (.iconst 0, 1) := by decide +kernel
theorem d_X12_isLineWord_12 : decode cX12_isLineWord 12 = .ok (.invokestatic 56, 3) := by decide +kernel
theorem d_X12_isLineWord_15 : decode cX12_isLineWord 15 = .ok (.invokevirtual 60, 3) := by decide +kernel
theorem d_X12_isLineWord_18 : decode cX12_isLineWord 18 = .ok (.ireturn, 1) := by decide +kernel
theorem d_X12_isForestsWord_0 : decode cX12_isForestsWord 0 = .ok (.aload_n 0, 1) := by decide +kernel
theorem d_X12_isForestsWord_1 : decode cX12_isForestsWord 1 = .ok (.bipush 102, 2) := by decide +kernel
theorem d_X12_isForestsWord_3 : decode cX12_isForestsWord 3 = .ok (.bipush 111, 2) := by decide +kernel
theorem d_X12_isForestsWord_5 : decode cX12_isForestsWord 5 = .ok (.bipush 114, 2) := by decide +kernel
theorem d_X12_isForestsWord_7 : decode cX12_isForestsWord 7 = .ok (.bipush 101, 2) := by decide +kernel
theorem d_X12_isForestsWord_9 : decode cX12_isForestsWord 9 = .ok (.bipush 115, 2) := by decide +kernel
theorem d_X12_isForestsWord_11 : decode cX12_isForestsWord 11 = .ok (.bipush 116, 2) := by decide +kernel
theorem d_X12_isForestsWord_13 : decode cX12_isForestsWord 13 = .ok (.bipush 115, 2) := by decide +kernel
theorem d_X12_isForestsWord_15 : decode cX12_isForestsWord 15 = .ok (.invokestatic 56, 3) := by decide +kernel
theorem d_X12_isForestsWord_18 : decode cX12_isForestsWord 18 = .ok (.invokevirtual 60, 3) := by decide +kernel
theorem d_X12_isForestsWord_21 : decode cX12_isForestsWord 21 = .ok (.ireturn, 1) := by decide +kernel
theorem d_X12_bad_0 : decode cX12_bad 0 = .ok (.aload_n 0, 1) := by decide +kernel
theorem d_X12_bad_1 : decode cX12_bad 1 = .ok (.aload_n 0, 1) := by decide +kernel
theorem d_X12_bad_2 : decode cX12_bad 2 = .ok (.getfield 31, 3) := by decide +kernel
theorem d_X12_bad_5 : decode cX12_bad 5 = .ok (.iconst 1, 1) := by decide +kernel
theorem d_X12_bad_6 : decode cX12_bad 6 = .ok (.if_icmp .ne 7, 3) := by decide +kernel
theorem d_X12_bad_9 : decode cX12_bad 9 = .ok (.iconst 1, 1) := by decide +kernel
theorem d_X12_bad_10 : decode cX12_bad 10 = .ok (.goto 4, 3) := by decide +kernel
theorem d_X12_bad_13 : decode cX12_bad 13 = .ok (.iload_n 1, 1) := by decide +kernel
theorem d_X12_bad_14 : decode cX12_bad 14 = .ok (.putfield 74, 3) := by decide +kernel
theorem d_X12_bad_17 : decode cX12_bad 17 = .ok (.aload_n 0, 1) := by decide +kernel
theorem d_X12_bad_18 : decode cX12_bad 18 = .ok (.aload_n 0, 1) := by decide +kernel
theorem d_X12_bad_19 : decode cX12_bad 19 = .ok (.getfield 28, 3) := by decide +kernel
theorem d_X12_bad_22 : decode cX12_bad 22 = .ok (.putfield 77, 3) := by decide +kernel
theorem d_X12_bad_25 : decode cX12_bad 25 = .ok (.iconst 0, 1) := by decide +kernel
theorem d_X12_bad_26 : decode cX12_bad 26 = .ok (.ireturn, 1) := by decide +kernel
theorem d_X12_isIn_0 : decode cX12_isIn 0 = .ok (.iload_n 0, 1) := by decide +kernel
theorem d_X12_isIn_1 : decode cX12_isIn 1 = .ok (.iload_n 1, 1) := by decide +kernel
theorem d_X12_isIn_2 : decode cX12_isIn 2 = .ok (.if_icmp .lt 12, 3) := by decide +kernel
theorem d_X12_isIn_5 : decode cX12_isIn 5 = .ok (.iload_n 0, 1) := by decide +kernel
theorem d_X12_isIn_6 : decode cX12_isIn 6 = .ok (.iload_n 2, 1) := by decide +kernel
theorem d_X12_isIn_7 : decode cX12_isIn 7 = .ok (.if_icmp .gt 7, 3) := by decide +kernel
theorem d_X12_isIn_10 : decode cX12_isIn 10 = .ok (.iconst 1, 1) := by decide +kernel
theorem d_X12_isIn_11 : decode cX12_isIn 11 = .ok (.goto 4, 3) := by decide +kernel
theorem d_X12_isIn_14 : decode cX12_isIn 14 = .ok (.iconst 0, 1) := by decide +kernel
theorem d_X12_isIn_15 : decode cX12_isIn 15 = .ok (.ireturn, 1) := by decide +kernel
theorem d_X12_readNumber_0 : decode cX12_readNumber 0 = .ok (.aload_n 0, 1) := by decide +kernel
theorem d_X12_readNumber_1 : decode cX12_readNumber 1 = .ok (.getfield 31, 3) := by decide +kernel
theorem d_X12_readNumber_4 : decode cX12_readNumber 4 = .ok (.iconst 3, 1) := by decide +kernel
theorem d_X12_readNumber_5 : decode cX12_readNumber 5 = .ok (.if_icmp .eq 9, 3) := by decide +kernel
theorem d_X12_readNumber_8 : decode cX12_readNumber 8 = .ok (.aload_n 0, 1) := by decide +kernel
theorem d_X12_readNumber_9 : decode cX12_readNumber 9 = .ok (.iconst 1, 1) := by decide +kernel
theorem d_X12_readNumber_10 : decode cX12_readNumber 10 = .ok (.invokevirtual 80, 3) := by decide +kernel
theorem d_X12_readNumber_13 : decode cX12_readNumber 13 = .ok (.ireturn, 1) := by decide +kernel
theorem d_X12_readNumber_14 : decode cX12_readNumber 14 = .ok (.aload_n 0, 1) := by decide +kernel
theorem d_X12_readNumber_15 : decode cX12_readNumber 15 = .ok (.getfield 45, 3) := by decide +kernel
theorem d_X12_readNumber_18 : decode cX12_readNumber 18 = .ok (.iload_n 1, 1) := by decide +kernel
theorem d_X12_readNumber_19 : decode cX12_readNumber 19 = .ok (.iload_n 2, 1) := by decide +kernel
theorem d_X12_readNumber_20 : decode cX12_readNumber 20 = .ok (.invokestatic 83, 3) := by decide +kernel
theorem d_X12_readNumber_23 : decode cX12_readNumber 23 = .ok (.ifCond .ne 9, 3) := by decide +kernel
theorem d_X12_readNumber_26 : decode cX12_readNumber 26 = .ok (.aload_n 0, 1) := by decide +kernel
theorem d_X12_readNumber_27 : decode cX12_readNumber 27 = .ok (.iconst 2, 1) := by decide +kernel
theorem d_X12_readNumber_28 : decode cX12_readNumber 28 = .ok (.invokevirtual 80, 3) := by decide +kernel
theorem d_X12_readNumber_31 : decode cX12_readNumber 31 = .ok (.ireturn, 1) := by decide +kernel
theorem d_X12_readNumber_32 : decode cX12_readNumber 32 = .ok (.aload_n 0, 1) := by decide +kernel
theorem d_X12_readNumber_33 : decode cX12_readNumber 33 = .ok (.aload_n 0, 1) := by decide +kernel
theorem d_X12_readNumber_34 : decode cX12_readNumber 34 = .ok (.getfield 45, 3) := by decide +kernel
theorem d_X12_readNumber_37 : decode cX12_readNumber 37 = .ok (.putfield 87, 3) := by decide +kernel
theorem d_X12_readNumber_40 : decode cX12_readNumber 40 = .ok (.aload_n 0, 1) := by decide +kernel
theorem d_X12_readNumber_41 : decode cX12_readNumber 41 = .ok (.invokevirtual 90, 3) := by decide +kernel
theorem d_X12_readNumber_44 : decode cX12_readNumber 44 = .ok (.iconst 1, 1) := by decide +kernel
theorem d_X12_readNumber_45 : decode cX12_readNumber 45 = .ok (.ireturn, 1) := by decide +kernel
theorem d_X12_readForests_0 : decode cX12_readForests 0 = .ok (.aload_n 0, 1) := by decide +kernel
theorem d_X12_readForests_1 : decode cX12_readForests 1 = .ok (.getfield 102, 3) := by decide +kernel
theorem d_X12_readForests_4 : decode cX12_readForests 4 = .ok (.iconst 2, 1) := by decide +kernel
theorem d_X12_readForests_5 : decode cX12_readForests 5 = .ok (.iaload, 1) := by decide +kernel
theorem d_X12_readForests_6 : decode cX12_readForests 6 = .ok (.ifCond .eq 9, 3) := by decide +kernel
theorem d_X12_readForests_9 : decode cX12_readForests 9 = .ok (.aload_n 0, 1) := by decide +kernel
theorem d_X12_readForests_10 : decode cX12_readForests 10 = .ok (.iconst 3, 1) := by decide +kernel
theorem d_X12_readForests_11 : decode cX12_readForests 11 = .ok (.invokevirtual 80, 3) := by decide +kernel
theorem d_X12_readForests_14 : decode cX12_readForests 14 = .ok (.ireturn, 1) := by decide +kernel
theorem d_X12_readForests_15 : decode cX12_readForests 15 = .ok (.aload_n 0, 1) := by decide +kernel
theorem d_X12_readForests_16 : decode cX12_readForests 16 = .ok (.invokevirtual 90, 3) := by decide +kernel
theorem d_X12_readForests_19 : decode cX12_readForests 19 = .ok (.aload_n 0, 1) := by decide +kernel
theorem d_X12_readForests_20 : decode cX12_readForests 20 = .ok (.iconst 1, 1) := by decide +kernel
theorem d_X12_readForests_21 : decode cX12_readForests 21 = .ok (.iconst 5, 1) := by decide +kernel
theorem d_X12_readForests_22 : decode cX12_readForests 22 = .ok (.invokevirtual 168, 3) := by decide +kernel
theorem d_X12_readForests_25 : decode cX12_readForests 25 = .ok (.ifCond .ne 5, 3) := by decide +kernel
theorem d_X12_readForests_28 : decode cX12_readForests 28 = .ok (.iconst 0, 1) := by decide +kernel
theorem d_X12_readForests_29 : decode cX12_readForests 29 = .ok (.ireturn, 1) := by decide +kernel
theorem d_X12_readForests_30 : decode cX12_readForests 30 = .ok (.aload_n 0, 1) := by decide +kernel
theorem d_X12_readForests_31 : decode cX12_readForests 31 = .ok (.getfield 102, 3) := by decide +kernel
theorem d_X12_readForests_34 : decode cX12_readForests 34 = .ok (.iconst 2, 1) := by decide +kernel
theorem d_X12_readForests_35 : decode cX12_readForests 35 = .ok (.aload_n 0, 1) := by decide +kernel
theorem d_X12_readForests_36 : decode cX12_readForests 36 = .ok (.getfield 87, 3) := by decide +kernel
theorem d_X12_readForests_39 : decode cX12_readForests 39 = .ok (.iastore, 1) := by decide +kernel
theorem d_X12_readForests_40 : decode cX12_readForests 40 = .ok (.iconst 1, 1) := by decide +kernel
theorem d_X12_readForests_41 : decode cX12_readForests 41 = .ok (.ireturn, 1) := by decide +kernel
theorem d_X12_isName_0 : decode cX12_isName 0 = .ok (.aload_n 0, 1) := by decide +kernel
theorem d_X12_isName_1 : decode cX12_isName 1 = .ok (.getfield 31, 3) := by decide +kernel
