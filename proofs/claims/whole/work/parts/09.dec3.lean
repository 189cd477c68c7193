-- needs: 08.links0
theorem d_X12_isName_4 : decode cX12_isName 4 = .ok (.iconst 2, 1) := by decide +kernel
theorem d_X12_isName_5 : decode cX12_isName 5 = .ok (.if_icmp .ne 28, 3) := by decide +kernel
theorem d_X12_isName_8 : decode cX12_isName 8 = .ok (.aload_n 0, 1) := by decide +kernel
theorem d_X12_isName_9 : decode cX12_isName 9 = .ok (.invokevirtual 64, 3) := by decide +kernel
theorem d_X12_isName_12 : decode cX12_isName 12 = .ok (.ifCond .ne 21, 3) := by decide +kernel
theorem d_X12_isName_15 : decode cX12_isName 15 = .ok (.aload_n 0, 1) := by decide +kernel
theorem d_X12_isName_16 : decode cX12_isName 16 = .ok (.invokevirtual 68, 3) := by decide +kernel
theorem d_X12_isName_19 : decode cX12_isName 19 = .ok (.ifCond .ne 14, 3) := by decide +kernel
theorem d_X12_isName_22 : decode cX12_isName 22 = .ok (.aload_n 0, 1) := by decide +kernel
theorem d_X12_isName_23 : decode cX12_isName 23 = .ok (.invokevirtual 71, 3) := by decide +kernel
theorem d_X12_isName_26 : decode cX12_isName 26 = .ok (.ifCond .ne 7, 3) := by decide +kernel
theorem d_X12_isName_29 : decode cX12_isName 29 = .ok (.iconst 1, 1) := by decide +kernel
theorem d_X12_isName_30 : decode cX12_isName 30 = .ok (.goto 4, 3) := by decide +kernel
theorem d_X12_isName_33 : decode cX12_isName 33 = .ok (.iconst 0, 1) := by decide +kernel
theorem d_X12_isName_34 : decode cX12_isName 34 = .ok (.ireturn, 1) := by decide +kernel
theorem d_X12_named_0 : decode cX12_named 0 = .ok (.iconst 0, 1) := by decide +kernel
theorem d_X12_named_1 : decode cX12_named 1 = .ok (.istore_n 1, 1) := by decide +kernel
theorem d_X12_named_2 : decode cX12_named 2 = .ok (.iload_n 1, 1) := by decide +kernel
theorem d_X12_named_3 : decode cX12_named 3 = .ok (.aload_n 0, 1) := by decide +kernel
theorem d_X12_named_4 : decode cX12_named 4 = .ok (.getfield 102, 3) := by decide +kernel
theorem d_X12_named_7 : decode cX12_named 7 = .ok (.iconst 0, 1) := by decide +kernel
theorem d_X12_named_8 : decode cX12_named 8 = .ok (.iaload, 1) := by decide +kernel
theorem d_X12_named_9 : decode cX12_named 9 = .ok (.if_icmp .ge 25, 3) := by decide +kernel
theorem d_X12_named_12 : decode cX12_named 12 = .ok (.aload_n 0, 1) := by decide +kernel
theorem d_X12_named_13 : decode cX12_named 13 = .ok (.getfield 117, 3) := by decide +kernel
theorem d_X12_named_16 : decode cX12_named 16 = .ok (.iload_n 1, 1) := by decide +kernel
theorem d_X12_named_17 : decode cX12_named 17 = .ok (.laload, 1) := by decide +kernel
theorem d_X12_named_18 : decode cX12_named 18 = .ok (.aload_n 0, 1) := by decide +kernel
theorem d_X12_named_19 : decode cX12_named 19 = .ok (.getfield 41, 3) := by decide +kernel
theorem d_X12_named_22 : decode cX12_named 22 = .ok (.lcmp, 1) := by decide +kernel
theorem d_X12_named_23 : decode cX12_named 23 = .ok (.ifCond .ne 5, 3) := by decide +kernel
theorem d_X12_named_26 : decode cX12_named 26 = .ok (.iload_n 1, 1) := by decide +kernel
theorem d_X12_named_27 : decode cX12_named 27 = .ok (.ireturn, 1) := by decide +kernel
theorem d_X12_named_28 : decode cX12_named 28 = .ok (.iinc 1 1, 3) := by decide +kernel
theorem d_X12_named_31 : decode cX12_named 31 = .ok (.goto (-29), 3) := by decide +kernel
theorem d_X12_named_34 : decode cX12_named 34 = .ok (.iconst (-1), 1) := by decide +kernel
theorem d_X12_named_35 : decode cX12_named 35 = .ok (.ireturn, 1) := by decide +kernel
theorem d_X12_readLine_0 : decode cX12_readLine 0 = .ok (.aload_n 0, 1) := by decide +kernel
theorem d_X12_readLine_1 : decode cX12_readLine 1 = .ok (.getfield 102, 3) := by decide +kernel
theorem d_X12_readLine_4 : decode cX12_readLine 4 = .ok (.iconst 1, 1) := by decide +kernel
theorem d_X12_readLine_5 : decode cX12_readLine 5 = .ok (.iaload, 1) := by decide +kernel
theorem d_X12_readLine_6 : decode cX12_readLine 6 = .ok (.istore_n 1, 1) := by decide +kernel
theorem d_X12_readLine_7 : decode cX12_readLine 7 = .ok (.iload_n 1, 1) := by decide +kernel
theorem d_X12_readLine_8 : decode cX12_readLine 8 = .ok (.bipush 24, 2) := by decide +kernel
theorem d_X12_readLine_10 : decode cX12_readLine 10 = .ok (.if_icmp .ne 9, 3) := by decide +kernel
theorem d_X12_readLine_13 : decode cX12_readLine 13 = .ok (.aload_n 0, 1) := by decide +kernel
theorem d_X12_readLine_14 : decode cX12_readLine 14 = .ok (.iconst 4, 1) := by decide +kernel
theorem d_X12_readLine_15 : decode cX12_readLine 15 = .ok (.invokevirtual 80, 3) := by decide +kernel
theorem d_X12_readLine_18 : decode cX12_readLine 18 = .ok (.ireturn, 1) := by decide +kernel
theorem d_X12_readLine_19 : decode cX12_readLine 19 = .ok (.aload_n 0, 1) := by decide +kernel
theorem d_X12_readLine_20 : decode cX12_readLine 20 = .ok (.invokevirtual 90, 3) := by decide +kernel
theorem d_X12_readLine_23 : decode cX12_readLine 23 = .ok (.aload_n 0, 1) := by decide +kernel
theorem d_X12_readLine_24 : decode cX12_readLine 24 = .ok (.invokevirtual 161, 3) := by decide +kernel
theorem d_X12_readLine_27 : decode cX12_readLine 27 = .ok (.ifCond .ne 9, 3) := by decide +kernel
theorem d_X12_readLine_30 : decode cX12_readLine 30 = .ok (.aload_n 0, 1) := by decide +kernel
theorem d_X12_readLine_31 : decode cX12_readLine 31 = .ok (.iconst 1, 1) := by decide +kernel
theorem d_X12_readLine_32 : decode cX12_readLine 32 = .ok (.invokevirtual 80, 3) := by decide +kernel
theorem d_X12_readLine_35 : decode cX12_readLine 35 = .ok (.ireturn, 1) := by decide +kernel
theorem d_X12_readLine_36 : decode cX12_readLine 36 = .ok (.aload_n 0, 1) := by decide +kernel
theorem d_X12_readLine_37 : decode cX12_readLine 37 = .ok (.invokevirtual 164, 3) := by decide +kernel
theorem d_X12_readLine_40 : decode cX12_readLine 40 = .ok (.istore_n 2, 1) := by decide +kernel
theorem d_X12_readLine_41 : decode cX12_readLine 41 = .ok (.iload_n 2, 1) := by decide +kernel
theorem d_X12_readLine_42 : decode cX12_readLine 42 = .ok (.iconst (-1), 1) := by decide +kernel
theorem d_X12_readLine_43 : decode cX12_readLine 43 = .ok (.if_icmp .ne 9, 3) := by decide +kernel
theorem d_X12_readLine_46 : decode cX12_readLine 46 = .ok (.aload_n 0, 1) := by decide +kernel
theorem d_X12_readLine_47 : decode cX12_readLine 47 = .ok (.iconst 3, 1) := by decide +kernel
theorem d_X12_readLine_48 : decode cX12_readLine 48 = .ok (.invokevirtual 80, 3) := by decide +kernel
theorem d_X12_readLine_51 : decode cX12_readLine 51 = .ok (.ireturn, 1) := by decide +kernel
theorem d_X12_readLine_52 : decode cX12_readLine 52 = .ok (.aload_n 0, 1) := by decide +kernel
theorem d_X12_readLine_53 : decode cX12_readLine 53 = .ok (.invokevirtual 90, 3) := by decide +kernel
theorem d_X12_readLine_56 : decode cX12_readLine 56 = .ok (.aload_n 0, 1) := by decide +kernel
theorem d_X12_readLine_57 : decode cX12_readLine 57 = .ok (.invokevirtual 161, 3) := by decide +kernel
theorem d_X12_readLine_60 : decode cX12_readLine 60 = .ok (.ifCond .ne 9, 3) := by decide +kernel
theorem d_X12_readLine_63 : decode cX12_readLine 63 = .ok (.aload_n 0, 1) := by decide +kernel
theorem d_X12_readLine_64 : decode cX12_readLine 64 = .ok (.iconst 1, 1) := by decide +kernel
theorem d_X12_readLine_65 : decode cX12_readLine 65 = .ok (.invokevirtual 80, 3) := by decide +kernel
theorem d_X12_readLine_68 : decode cX12_readLine 68 = .ok (.ireturn, 1) := by decide +kernel
theorem d_X12_readLine_69 : decode cX12_readLine 69 = .ok (.aload_n 0, 1) := by decide +kernel
theorem d_X12_readLine_70 : decode cX12_readLine 70 = .ok (.invokevirtual 164, 3) := by decide +kernel
theorem d_X12_readLine_73 : decode cX12_readLine 73 = .ok (.istore_n 3, 1) := by decide +kernel
theorem d_X12_readLine_74 : decode cX12_readLine 74 = .ok (.iload_n 3, 1) := by decide +kernel
theorem d_X12_readLine_75 : decode cX12_readLine 75 = .ok (.iconst (-1), 1) := by decide +kernel
theorem d_X12_readLine_76 : decode cX12_readLine 76 = .ok (.if_icmp .eq 8, 3) := by decide +kernel
theorem d_X12_readLine_79 : decode cX12_readLine 79 = .ok (.iload_n 3, 1) := by decide +kernel
theorem d_X12_readLine_80 : decode cX12_readLine 80 = .ok (.iload_n 2, 1) := by decide +kernel
theorem d_X12_readLine_81 : decode cX12_readLine 81 = .ok (.if_icmp .ne 9, 3) := by decide +kernel
theorem d_X12_readLine_84 : decode cX12_readLine 84 = .ok (.aload_n 0, 1) := by decide +kernel
theorem d_X12_readLine_85 : decode cX12_readLine 85 = .ok (.iconst 3, 1) := by decide +kernel
theorem d_X12_readLine_86 : decode cX12_readLine 86 = .ok (.invokevirtual 80, 3) := by decide +kernel
theorem d_X12_readLine_89 : decode cX12_readLine 89 = .ok (.ireturn, 1) := by decide +kernel
theorem d_X12_readLine_90 : decode cX12_readLine 90 = .ok (.aload_n 0, 1) := by decide +kernel
theorem d_X12_readLine_91 : decode cX12_readLine 91 = .ok (.invokevirtual 90, 3) := by decide +kernel
theorem d_X12_readLine_94 : decode cX12_readLine 94 = .ok (.aload_n 0, 1) := by decide +kernel
theorem d_X12_readLine_95 : decode cX12_readLine 95 = .ok (.iconst 1, 1) := by decide +kernel
theorem d_X12_readLine_96 : decode cX12_readLine 96 = .ok (.bipush 99, 2) := by decide +kernel
theorem d_X12_readLine_98 : decode cX12_readLine 98 = .ok (.invokevirtual 168, 3) := by decide +kernel
theorem d_X12_readLine_101 : decode cX12_readLine 101 = .ok (.ifCond .ne 5, 3) := by decide +kernel
theorem d_X12_readLine_104 : decode cX12_readLine 104 = .ok (.iconst 0, 1) := by decide +kernel
theorem d_X12_readLine_105 : decode cX12_readLine 105 = .ok (.ireturn, 1) := by decide +kernel
theorem d_X12_readLine_106 : decode cX12_readLine 106 = .ok (.aload_n 0, 1) := by decide +kernel
theorem d_X12_readLine_107 : decode cX12_readLine 107 = .ok (.getfield 102, 3) := by decide +kernel
theorem d_X12_readLine_110 : decode cX12_readLine 110 = .ok (.iconst 3, 1) := by decide +kernel
theorem d_X12_readLine_111 : decode cX12_readLine 111 = .ok (.iload_n 1, 1) := by decide +kernel
theorem d_X12_readLine_112 : decode cX12_readLine 112 = .ok (.iadd, 1) := by decide +kernel
theorem d_X12_readLine_113 : decode cX12_readLine 113 = .ok (.iload_n 2, 1) := by decide +kernel
theorem d_X12_readLine_114 : decode cX12_readLine 114 = .ok (.iastore, 1) := by decide +kernel
theorem d_X12_readLine_115 : decode cX12_readLine 115 = .ok (.aload_n 0, 1) := by decide +kernel
theorem d_X12_readLine_116 : decode cX12_readLine 116 = .ok (.getfield 102, 3) := by decide +kernel
theorem d_X12_readLine_119 : decode cX12_readLine 119 = .ok (.bipush 27, 2) := by decide +kernel
theorem d_X12_readLine_121 : decode cX12_readLine 121 = .ok (.iload_n 1, 1) := by decide +kernel
theorem d_X12_readLine_122 : decode cX12_readLine 122 = .ok (.iadd, 1) := by decide +kernel
theorem d_X12_readLine_123 : decode cX12_readLine 123 = .ok (.iload_n 3, 1) := by decide +kernel
theorem d_X12_readLine_124 : decode cX12_readLine 124 = .ok (.iastore, 1) := by decide +kernel
theorem d_X12_readLine_125 : decode cX12_readLine 125 = .ok (.aload_n 0, 1) := by decide +kernel
theorem d_X12_readLine_126 : decode cX12_readLine 126 = .ok (.getfield 102, 3) := by decide +kernel
theorem d_X12_readLine_129 : decode cX12_readLine 129 = .ok (.bipush 51, 2) := by decide +kernel
theorem d_X12_readLine_131 : decode cX12_readLine 131 = .ok (.iload_n 1, 1) := by decide +kernel
theorem d_X12_readLine_132 : decode cX12_readLine 132 = .ok (.iadd, 1) := by decide +kernel
theorem d_X12_readLine_133 : decode cX12_readLine 133 = .ok (.aload_n 0, 1) := by decide +kernel
theorem d_X12_readLine_134 : decode cX12_readLine 134 = .ok (.getfield 87, 3) := by decide +kernel
theorem d_X12_readLine_137 : decode cX12_readLine 137 = .ok (.iastore, 1) := by decide +kernel
theorem d_X12_readLine_138 : decode cX12_readLine 138 = .ok (.aload_n 0, 1) := by decide +kernel
theorem d_X12_readLine_139 : decode cX12_readLine 139 = .ok (.getfield 102, 3) := by decide +kernel
theorem d_X12_readLine_142 : decode cX12_readLine 142 = .ok (.bipush 75, 2) := by decide +kernel
theorem d_X12_readLine_144 : decode cX12_readLine 144 = .ok (.iload_n 1, 1) := by decide +kernel
theorem d_X12_readLine_145 : decode cX12_readLine 145 = .ok (.iadd, 1) := by decide +kernel
theorem d_X12_readLine_146 : decode cX12_readLine 146 = .ok (.iconst (-1), 1) := by decide +kernel
theorem d_X12_readLine_147 : decode cX12_readLine 147 = .ok (.iastore, 1) := by decide +kernel
theorem d_X12_readLine_148 : decode cX12_readLine 148 = .ok (.aload_n 0, 1) := by decide +kernel
theorem d_X12_readLine_149 : decode cX12_readLine 149 = .ok (.getfield 102, 3) := by decide +kernel
theorem d_X12_readLine_152 : decode cX12_readLine 152 = .ok (.iconst 1, 1) := by decide +kernel
theorem d_X12_readLine_153 : decode cX12_readLine 153 = .ok (.dup2, 1) := by decide +kernel
theorem d_X12_readLine_154 : decode cX12_readLine 154 = .ok (.iaload, 1) := by decide +kernel
theorem d_X12_readLine_155 : decode cX12_readLine 155 = .ok (.iconst 1, 1) := by decide +kernel
theorem d_X12_readLine_156 : decode cX12_readLine 156 = .ok (.iadd, 1) := by decide +kernel
theorem d_X12_readLine_157 : decode cX12_readLine 157 = .ok (.iastore, 1) := by decide +kernel
theorem d_X12_readLine_158 : decode cX12_readLine 158 = .ok (.iconst 1, 1) := by decide +kernel
theorem d_X12_readLine_159 : decode cX12_readLine 159 = .ok (.ireturn, 1) := by decide +kernel
theorem d_X12_readPoint_0 : decode cX12_readPoint 0 = .ok (.aload_n 0, 1) := by decide +kernel
theorem d_X12_readPoint_1 : decode cX12_readPoint 1 = .ok (.getfield 102, 3) := by decide +kernel
theorem d_X12_readPoint_4 : decode cX12_readPoint 4 = .ok (.iconst 0, 1) := by decide +kernel
theorem d_X12_readPoint_5 : decode cX12_readPoint 5 = .ok (.iaload, 1) := by decide +kernel
theorem d_X12_readPoint_6 : decode cX12_readPoint 6 = .ok (.bipush 10, 2) := by decide +kernel
theorem d_X12_readPoint_8 : decode cX12_readPoint 8 = .ok (.if_icmp .ne 9, 3) := by decide +kernel
theorem d_X12_readPoint_11 : decode cX12_readPoint 11 = .ok (.aload_n 0, 1) := by decide +kernel
theorem d_X12_readPoint_12 : decode cX12_readPoint 12 = .ok (.iconst 4, 1) := by decide +kernel
theorem d_X12_readPoint_13 : decode cX12_readPoint 13 = .ok (.invokevirtual 80, 3) := by decide +kernel
theorem d_X12_readPoint_16 : decode cX12_readPoint 16 = .ok (.ireturn, 1) := by decide +kernel
theorem d_X12_readPoint_17 : decode cX12_readPoint 17 = .ok (.aload_n 0, 1) := by decide +kernel
theorem d_X12_readPoint_18 : decode cX12_readPoint 18 = .ok (.invokevirtual 90, 3) := by decide +kernel
theorem d_X12_readPoint_21 : decode cX12_readPoint 21 = .ok (.aload_n 0, 1) := by decide +kernel
theorem d_X12_readPoint_22 : decode cX12_readPoint 22 = .ok (.invokevirtual 161, 3) := by decide +kernel
theorem d_X12_readPoint_25 : decode cX12_readPoint 25 = .ok (.ifCond .ne 9, 3) := by decide +kernel
theorem d_X12_readPoint_28 : decode cX12_readPoint 28 = .ok (.aload_n 0, 1) := by decide +kernel
theorem d_X12_readPoint_29 : decode cX12_readPoint 29 = .ok (.iconst 1, 1) := by decide +kernel
theorem d_X12_readPoint_30 : decode cX12_readPoint 30 = .ok (.invokevirtual 80, 3) := by decide +kernel
theorem d_X12_readPoint_33 : decode cX12_readPoint 33 = .ok (.ireturn, 1) := by decide +kernel
theorem d_X12_readPoint_34 : decode cX12_readPoint 34 = .ok (.aload_n 0, 1) := by decide +kernel
theorem d_X12_readPoint_35 : decode cX12_readPoint 35 = .ok (.invokevirtual 164, 3) := by decide +kernel
theorem d_X12_readPoint_38 : decode cX12_readPoint 38 = .ok (.iconst (-1), 1) := by decide +kernel
theorem d_X12_readPoint_39 : decode cX12_readPoint 39 = .ok (.if_icmp .eq 9, 3) := by decide +kernel
theorem d_X12_readPoint_42 : decode cX12_readPoint 42 = .ok (.aload_n 0, 1) := by decide +kernel
theorem d_X12_readPoint_43 : decode cX12_readPoint 43 = .ok (.iconst 3, 1) := by decide +kernel
theorem d_X12_readPoint_44 : decode cX12_readPoint 44 = .ok (.invokevirtual 80, 3) := by decide +kernel
theorem d_X12_readPoint_47 : decode cX12_readPoint 47 = .ok (.ireturn, 1) := by decide +kernel
theorem d_X12_readPoint_48 : decode cX12_readPoint 48 = .ok (.aload_n 0, 1) := by decide +kernel
theorem d_X12_readPoint_49 : decode cX12_readPoint 49 = .ok (.getfield 117, 3) := by decide +kernel
theorem d_X12_readPoint_52 : decode cX12_readPoint 52 = .ok (.aload_n 0, 1) := by decide +kernel
theorem d_X12_readPoint_53 : decode cX12_readPoint 53 = .ok (.getfield 102, 3) := by decide +kernel
theorem d_X12_readPoint_56 : decode cX12_readPoint 56 = .ok (.iconst 0, 1) := by decide +kernel
theorem d_X12_readPoint_57 : decode cX12_readPoint 57 = .ok (.iaload, 1) := by decide +kernel
theorem d_X12_readPoint_58 : decode cX12_readPoint 58 = .ok (.aload_n 0, 1) := by decide +kernel
theorem d_X12_readPoint_59 : decode cX12_readPoint 59 = .ok (.getfield 41, 3) := by decide +kernel
theorem d_X12_readPoint_62 : decode cX12_readPoint 62 = .ok (.lastore, 1) := by decide +kernel
theorem d_X12_readPoint_63 : decode cX12_readPoint 63 = .ok (.aload_n 0, 1) := by decide +kernel
theorem d_X12_readPoint_64 : decode cX12_readPoint 64 = .ok (.getfield 102, 3) := by decide +kernel
theorem d_X12_readPoint_67 : decode cX12_readPoint 67 = .ok (.iconst 0, 1) := by decide +kernel
theorem d_X12_readPoint_68 : decode cX12_readPoint 68 = .ok (.dup2, 1) := by decide +kernel
theorem d_X12_readPoint_69 : decode cX12_readPoint 69 = .ok (.iaload, 1) := by decide +kernel
theorem d_X12_readPoint_70 : decode cX12_readPoint 70 = .ok (.iconst 1, 1) := by decide +kernel
theorem d_X12_readPoint_71 : decode cX12_readPoint 71 = .ok (.iadd, 1) := by decide +kernel
theorem d_X12_readPoint_72 : decode cX12_readPoint 72 = .ok (.iastore, 1) := by decide +kernel
theorem d_X12_readPoint_73 : decode cX12_readPoint 73 = .ok (.aload_n 0, 1) := by decide +kernel
theorem d_X12_readPoint_74 : decode cX12_readPoint 74 = .ok (.invokevirtual 90, 3) := by decide +kernel
theorem d_X12_readPoint_77 : decode cX12_readPoint 77 = .ok (.iconst 1, 1) := by decide +kernel
theorem d_X12_readPoint_78 : decode cX12_readPoint 78 = .ok (.ireturn, 1) := by decide +kernel
theorem d_X12_readEnd_0 : decode cX12_readEnd 0 = .ok (.aload_n 0, 1) := by decide +kernel
theorem d_X12_readEnd_1 : decode cX12_readEnd 1 = .ok (.getfield 31, 3) := by decide +kernel
theorem d_X12_readEnd_4 : decode cX12_readEnd 4 = .ok (.iconst 4, 1) := by decide +kernel
theorem d_X12_readEnd_5 : decode cX12_readEnd 5 = .ok (.if_icmp .eq 9, 3) := by decide +kernel
theorem d_X12_readEnd_8 : decode cX12_readEnd 8 = .ok (.aload_n 0, 1) := by decide +kernel
theorem d_X12_readEnd_9 : decode cX12_readEnd 9 = .ok (.iconst 1, 1) := by decide +kernel
theorem d_X12_readEnd_10 : decode cX12_readEnd 10 = .ok (.invokevirtual 80, 3) := by decide +kernel
theorem d_X12_readEnd_13 : decode cX12_readEnd 13 = .ok (.ireturn, 1) := by decide +kernel
theorem d_X12_readEnd_14 : decode cX12_readEnd 14 = .ok (.aload_n 0, 1) := by decide +kernel
theorem d_X12_readEnd_15 : decode cX12_readEnd 15 = .ok (.invokevirtual 90, 3) := by decide +kernel
theorem d_X12_readEnd_18 : decode cX12_readEnd 18 = .ok (.iconst 1, 1) := by decide +kernel
theorem d_X12_readEnd_19 : decode cX12_readEnd 19 = .ok (.ireturn, 1) := by decide +kernel
theorem d_X12_net_0 : decode cX12_net 0 = .ok (.aload_n 0, 1) := by decide +kernel
theorem d_X12_net_1 : decode cX12_net 1 = .ok (.iconst 0, 1) := by decide +kernel
theorem d_X12_net_2 : decode cX12_net 2 = .ok (.putfield 1, 3) := by decide +kernel
theorem d_X12_net_5 : decode cX12_net 5 = .ok (.aload_n 0, 1) := by decide +kernel
theorem d_X12_net_6 : decode cX12_net 6 = .ok (.aload_n 0, 1) := by decide +kernel
theorem d_X12_net_7 : decode cX12_net 7 = .ok (.getfield 15, 3) := by decide +kernel
theorem d_X12_net_10 : decode cX12_net 10 = .ok (.putfield 22, 3) := by decide +kernel
theorem d_X12_net_13 : decode cX12_net 13 = .ok (.aload_n 0, 1) := by decide +kernel
theorem d_X12_net_14 : decode cX12_net 14 = .ok (.iconst 0, 1) := by decide +kernel
theorem d_X12_net_15 : decode cX12_net 15 = .ok (.putfield 15, 3) := by decide +kernel
theorem d_X12_net_18 : decode cX12_net 18 = .ok (.aload_n 0, 1) := by decide +kernel
theorem d_X12_net_19 : decode cX12_net 19 = .ok (.iconst 0, 1) := by decide +kernel
theorem d_X12_net_20 : decode cX12_net 20 = .ok (.putfield 74, 3) := by decide +kernel
theorem d_X12_net_23 : decode cX12_net 23 = .ok (.aload_n 0, 1) := by decide +kernel
theorem d_X12_net_24 : decode cX12_net 24 = .ok (.iconst 0, 1) := by decide +kernel
theorem d_X12_net_25 : decode cX12_net 25 = .ok (.putfield 25, 3) := by decide +kernel
theorem d_X12_net_28 : decode cX12_net 28 = .ok (.iconst 0, 1) := by decide +kernel
theorem d_X12_net_29 : decode cX12_net 29 = .ok (.istore_n 1, 1) := by decide +kernel
theorem d_X12_net_30 : decode cX12_net 30 = .ok (.iload_n 1, 1) := by decide +kernel
theorem d_X12_net_31 : decode cX12_net 31 = .ok (.sipush 147, 3) := by decide +kernel
theorem d_X12_net_34 : decode cX12_net 34 = .ok (.if_icmp .ge 16, 3) := by decide +kernel
theorem d_X12_net_37 : decode cX12_net 37 = .ok (.aload_n 0, 1) := by decide +kernel
theorem d_X12_net_38 : decode cX12_net 38 = .ok (.getfield 102, 3) := by decide +kernel
theorem d_X12_net_41 : decode cX12_net 41 = .ok (.iload_n 1, 1) := by decide +kernel
theorem d_X12_net_42 : decode cX12_net 42 = .ok (.iconst 0, 1) := by decide +kernel
theorem d_X12_net_43 : decode cX12_net 43 = .ok (.iastore, 1) := by decide +kernel
theorem d_X12_net_44 : decode cX12_net 44 = .ok (.iinc 1 1, 3) := by decide +kernel
theorem d_X12_net_47 : decode cX12_net 47 = .ok (.goto (-17), 3) := by decide +kernel
theorem d_X12_net_50 : decode cX12_net 50 = .ok (.iconst 0, 1) := by decide +kernel
theorem d_X12_net_51 : decode cX12_net 51 = .ok (.istore_n 1, 1) := by decide +kernel
theorem d_X12_net_52 : decode cX12_net 52 = .ok (.aload_n 0, 1) := by decide +kernel
theorem d_X12_net_53 : decode cX12_net 53 = .ok (.invokevirtual 90, 3) := by decide +kernel
theorem d_X12_net_56 : decode cX12_net 56 = .ok (.aload_n 0, 1) := by decide +kernel
theorem d_X12_net_57 : decode cX12_net 57 = .ok (.getfield 31, 3) := by decide +kernel
theorem d_X12_net_60 : decode cX12_net 60 = .ok (.ifCond .eq 75, 3) := by decide +kernel
theorem d_X12_net_63 : decode cX12_net 63 = .ok (.aload_n 0, 1) := by decide +kernel
theorem d_X12_net_64 : decode cX12_net 64 = .ok (.invokevirtual 64, 3) := by decide +kernel
theorem d_X12_net_67 : decode cX12_net 67 = .ok (.ifCond .eq 10, 3) := by decide +kernel
theorem d_X12_net_70 : decode cX12_net 70 = .ok (.aload_n 0, 1) := by decide +kernel
theorem d_X12_net_71 : decode cX12_net 71 = .ok (.invokevirtual 172, 3) := by decide +kernel
theorem d_X12_net_74 : decode cX12_net 74 = .ok (.goto 36, 3) := by decide +kernel
theorem d_X12_net_77 : decode cX12_net 77 = .ok (.aload_n 0, 1) := by decide +kernel
theorem d_X12_net_78 : decode cX12_net 78 = .ok (.invokevirtual 68, 3) := by decide +kernel
theorem d_X12_net_81 : decode cX12_net 81 = .ok (.ifCond .eq 10, 3) := by decide +kernel
theorem d_X12_net_84 : decode cX12_net 84 = .ok (.aload_n 0, 1) := by decide +kernel
theorem d_X12_net_85 : decode cX12_net 85 = .ok (.invokevirtual 175, 3) := by decide +kernel
theorem d_X12_net_88 : decode cX12_net 88 = .ok (.goto 22, 3) := by decide +kernel
theorem d_X12_net_91 : decode cX12_net 91 = .ok (.aload_n 0, 1) := by decide +kernel
theorem d_X12_net_92 : decode cX12_net 92 = .ok (.invokevirtual 71, 3) := by decide +kernel
theorem d_X12_net_95 : decode cX12_net 95 = .ok (.ifCond .eq 10, 3) := by decide +kernel
theorem d_X12_net_98 : decode cX12_net 98 = .ok (.aload_n 0, 1) := by decide +kernel
theorem d_X12_net_99 : decode cX12_net 99 = .ok (.invokevirtual 178, 3) := by decide +kernel
theorem d_X12_net_102 : decode cX12_net 102 = .ok (.goto 8, 3) := by decide +kernel
theorem d_X12_net_105 : decode cX12_net 105 = .ok (.aload_n 0, 1) := by decide +kernel
theorem d_X12_net_106 : decode cX12_net 106 = .ok (.iconst 1, 1) := by decide +kernel
theorem d_X12_net_107 : decode cX12_net 107 = .ok (.invokevirtual 80, 3) := by decide +kernel
theorem d_X12_net_110 : decode cX12_net 110 = .ok (.istore_n 2, 1) := by decide +kernel
theorem d_X12_net_111 : decode cX12_net 111 = .ok (.iload_n 2, 1) := by decide +kernel
theorem d_X12_net_112 : decode cX12_net 112 = .ok (.ifCond .eq 10, 3) := by decide +kernel
theorem d_X12_net_115 : decode cX12_net 115 = .ok (.aload_n 0, 1) := by decide +kernel
theorem d_X12_net_116 : decode cX12_net 116 = .ok (.invokevirtual 181, 3) := by decide +kernel
theorem d_X12_net_119 : decode cX12_net 119 = .ok (.ifCond .ne 10, 3) := by decide +kernel
theorem d_X12_net_122 : decode cX12_net 122 = .ok (.iconst (-1), 1) := by decide +kernel
theorem d_X12_net_123 : decode cX12_net 123 = .ok (.aload_n 0, 1) := by decide +kernel
theorem d_X12_net_124 : decode cX12_net 124 = .ok (.getfield 77, 3) := by decide +kernel
theorem d_X12_net_127 : decode cX12_net 127 = .ok (.isub, 1) := by decide +kernel
theorem d_X12_net_128 : decode cX12_net 128 = .ok (.ireturn, 1) := by decide +kernel
theorem d_X12_net_129 : decode cX12_net 129 = .ok (.iinc 1 1, 3) := by decide +kernel
theorem d_X12_net_132 : decode cX12_net 132 = .ok (.goto (-76), 3) := by decide +kernel
theorem d_X12_net_135 : decode cX12_net 135 = .ok (.aload_n 0, 1) := by decide +kernel
theorem d_X12_net_136 : decode cX12_net 136 = .ok (.getfield 102, 3) := by decide +kernel
theorem d_X12_net_139 : decode cX12_net 139 = .ok (.iconst 2, 1) := by decide +kernel
theorem d_X12_net_140 : decode cX12_net 140 = .ok (.iaload, 1) := by decide +kernel
theorem d_X12_net_141 : decode cX12_net 141 = .ok (.ifCond .ne 10, 3) := by decide +kernel
theorem d_X12_net_144 : decode cX12_net 144 = .ok (.aload_n 0, 1) := by decide +kernel
theorem d_X12_net_145 : decode cX12_net 145 = .ok (.getfield 102, 3) := by decide +kernel
theorem d_X12_net_148 : decode cX12_net 148 = .ok (.iconst 2, 1) := by decide +kernel
theorem d_X12_net_149 : decode cX12_net 149 = .ok (.iconst 2, 1) := by decide +kernel
theorem d_X12_net_150 : decode cX12_net 150 = .ok (.iastore, 1) := by decide +kernel
theorem d_X12_net_151 : decode cX12_net 151 = .ok (.aload_n 0, 1) := by decide +kernel
theorem d_X12_net_152 : decode cX12_net 152 = .ok (.getfield 102, 3) := by decide +kernel
theorem d_X12_net_155 : decode cX12_net 155 = .ok (.iconst 0, 1) := by decide +kernel
theorem d_X12_net_156 : decode cX12_net 156 = .ok (.aload_n 0, 1) := by decide +kernel
theorem d_X12_net_157 : decode cX12_net 157 = .ok (.getfield 99, 3) := by decide +kernel
theorem d_X12_net_160 : decode cX12_net 160 = .ok (.iconst 0, 1) := by decide +kernel
theorem d_X12_net_161 : decode cX12_net 161 = .ok (.invokestatic 184, 3) := by decide +kernel
theorem d_X12_net_164 : decode cX12_net 164 = .ok (.aload_n 0, 1) := by decide +kernel
theorem d_X12_net_165 : decode cX12_net 165 = .ok (.iconst 0, 1) := by decide +kernel
theorem d_X12_net_166 : decode cX12_net 166 = .ok (.putfield 188, 3) := by decide +kernel
theorem d_X12_net_169 : decode cX12_net 169 = .ok (.iload_n 1, 1) := by decide +kernel
theorem d_X12_net_170 : decode cX12_net 170 = .ok (.ireturn, 1) := by decide +kernel
theorem d_X12_fault_0 : decode cX12_fault 0 = .ok (.aload_n 0, 1) := by decide +kernel
theorem d_X12_fault_1 : decode cX12_fault 1 = .ok (.iconst 0, 1) := by decide +kernel
theorem d_X12_fault_2 : decode cX12_fault 2 = .ok (.putfield 1, 3) := by decide +kernel
theorem d_X12_fault_5 : decode cX12_fault 5 = .ok (.aload_n 0, 1) := by decide +kernel
theorem d_X12_fault_6 : decode cX12_fault 6 = .ok (.getfield 74, 3) := by decide +kernel
theorem d_X12_fault_9 : decode cX12_fault 9 = .ok (.ireturn, 1) := by decide +kernel
theorem d_X12_many_0 : decode cX12_many 0 = .ok (.aload_n 0, 1) := by decide +kernel
theorem d_X12_many_1 : decode cX12_many 1 = .ok (.getfield 99, 3) := by decide +kernel
theorem d_X12_many_4 : decode cX12_many 4 = .ok (.iconst 2, 1) := by decide +kernel
theorem d_X12_many_5 : decode cX12_many 5 = .ok (.iaload, 1) := by decide +kernel
theorem d_X12_many_6 : decode cX12_many 6 = .ok (.ireturn, 1) := by decide +kernel
theorem d_X12_snap_0 : decode cX12_snap 0 = .ok (.aload_n 0, 1) := by decide +kernel
theorem d_X12_snap_1 : decode cX12_snap 1 = .ok (.getfield 188, 3) := by decide +kernel
theorem d_X12_snap_4 : decode cX12_snap 4 = .ok (.bipush 8, 2) := by decide +kernel
theorem d_X12_snap_6 : decode cX12_snap 6 = .ok (.if_icmp .ne 44, 3) := by decide +kernel
theorem d_X12_snap_9 : decode cX12_snap 9 = .ok (.iconst 0, 1) := by decide +kernel
theorem d_X12_snap_10 : decode cX12_snap 10 = .ok (.istore_n 1, 1) := by decide +kernel
theorem d_X12_snap_11 : decode cX12_snap 11 = .ok (.iload_n 1, 1) := by decide +kernel
theorem d_X12_snap_12 : decode cX12_snap 12 = .ok (.sipush 1029, 3) := by decide +kernel
theorem d_X12_snap_15 : decode cX12_snap 15 = .ok (.if_icmp .ge 25, 3) := by decide +kernel
theorem d_X12_snap_18 : decode cX12_snap 18 = .ok (.aload_n 0, 1) := by decide +kernel
theorem d_X12_snap_19 : decode cX12_snap 19 = .ok (.getfield 108, 3) := by decide +kernel
theorem d_X12_snap_22 : decode cX12_snap 22 = .ok (.iload_n 1, 1) := by decide +kernel
theorem d_X12_snap_23 : decode cX12_snap 23 = .ok (.aload_n 0, 1) := by decide +kernel
theorem d_X12_snap_24 : decode cX12_snap 24 = .ok (.getfield 108, 3) := by decide +kernel
theorem d_X12_snap_27 : decode cX12_snap 27 = .ok (.iload_n 1, 1) := by decide +kernel
theorem d_X12_snap_28 : decode cX12_snap 28 = .ok (.sipush 147, 3) := by decide +kernel
theorem d_X12_snap_31 : decode cX12_snap 31 = .ok (.iadd, 1) := by decide +kernel
theorem d_X12_snap_32 : decode cX12_snap 32 = .ok (.iaload, 1) := by decide +kernel
theorem d_X12_snap_33 : decode cX12_snap 33 = .ok (.iastore, 1) := by decide +kernel
theorem d_X12_snap_34 : decode cX12_snap 34 = .ok (.iinc 1 1, 3) := by decide +kernel
theorem d_X12_snap_37 : decode cX12_snap 37 = .ok (.goto (-26), 3) := by decide +kernel
theorem d_X12_snap_40 : decode cX12_snap 40 = .ok (.aload_n 0, 1) := by decide +kernel
theorem d_X12_snap_41 : decode cX12_snap 41 = .ok (.dup, 1) := by decide +kernel
theorem d_X12_snap_42 : decode cX12_snap 42 = .ok (.getfield 188, 3) := by decide +kernel
theorem d_X12_snap_45 : decode cX12_snap 45 = .ok (.iconst 1, 1) := by decide +kernel
theorem d_X12_snap_46 : decode cX12_snap 46 = .ok (.isub, 1) := by decide +kernel
theorem d_X12_snap_47 : decode cX12_snap 47 = .ok (.putfield 188, 3) := by decide +kernel
theorem d_X12_snap_50 : decode cX12_snap 50 = .ok (.aload_n 0, 1) := by decide +kernel
theorem d_X12_snap_51 : decode cX12_snap 51 = .ok (.getfield 99, 3) := by decide +kernel
theorem d_X12_snap_54 : decode cX12_snap 54 = .ok (.iconst 0, 1) := by decide +kernel
theorem d_X12_snap_55 : decode cX12_snap 55 = .ok (.aload_n 0, 1) := by decide +kernel
theorem d_X12_snap_56 : decode cX12_snap 56 = .ok (.getfield 108, 3) := by decide +kernel
theorem d_X12_snap_59 : decode cX12_snap 59 = .ok (.sipush 147, 3) := by decide +kernel
theorem d_X12_snap_62 : decode cX12_snap 62 = .ok (.aload_n 0, 1) := by decide +kernel
theorem d_X12_snap_63 : decode cX12_snap 63 = .ok (.getfield 188, 3) := by decide +kernel
theorem d_X12_snap_66 : decode cX12_snap 66 = .ok (.imul, 1) := by decide +kernel
theorem d_X12_snap_67 : decode cX12_snap 67 = .ok (.invokestatic 184, 3) := by decide +kernel
theorem d_X12_snap_70 : decode cX12_snap 70 = .ok (.aload_n 0, 1) := by decide +kernel
theorem d_X12_snap_71 : decode cX12_snap 71 = .ok (.dup, 1) := by decide +kernel
theorem d_X12_snap_72 : decode cX12_snap 72 = .ok (.getfield 188, 3) := by decide +kernel
theorem d_X12_snap_75 : decode cX12_snap 75 = .ok (.iconst 1, 1) := by decide +kernel
theorem d_X12_snap_76 : decode cX12_snap 76 = .ok (.iadd, 1) := by decide +kernel
theorem d_X12_snap_77 : decode cX12_snap 77 = .ok (.putfield 188, 3) := by decide +kernel
theorem d_X12_snap_80 : decode cX12_snap 80 = .ok (.return_, 1) := by decide +kernel
theorem d_X12_lines_0 : decode cX12_lines 0 = .ok (.aload_n 0, 1) := by decide +kernel
theorem d_X12_lines_1 : decode cX12_lines 1 = .ok (.getfield 99, 3) := by decide +kernel
theorem d_X12_lines_4 : decode cX12_lines 4 = .ok (.iconst 1, 1) := by decide +kernel
theorem d_X12_lines_5 : decode cX12_lines 5 = .ok (.iaload, 1) := by decide +kernel
theorem d_X12_lines_6 : decode cX12_lines 6 = .ok (.ireturn, 1) := by decide +kernel
theorem d_X12_lies_0 : decode cX12_lies 0 = .ok (.aload_n 0, 1) := by decide +kernel
theorem d_X12_lies_1 : decode cX12_lies 1 = .ok (.getfield 99, 3) := by decide +kernel
theorem d_X12_lies_4 : decode cX12_lies 4 = .ok (.bipush 75, 2) := by decide +kernel
theorem d_X12_lies_6 : decode cX12_lies 6 = .ok (.iload_n 1, 1) := by decide +kernel
theorem d_X12_lies_7 : decode cX12_lies 7 = .ok (.iadd, 1) := by decide +kernel
theorem d_X12_lies_8 : decode cX12_lies 8 = .ok (.iaload, 1) := by decide +kernel
theorem d_X12_lies_9 : decode cX12_lies 9 = .ok (.ireturn, 1) := by decide +kernel
theorem d_X12_forests_0 : decode cX12_forests 0 = .ok (.aload_n 0, 1) := by decide +kernel
theorem d_X12_forests_1 : decode cX12_forests 1 = .ok (.iconst 0, 1) := by decide +kernel
theorem d_X12_forests_2 : decode cX12_forests 2 = .ok (.putfield 1, 3) := by decide +kernel
theorem d_X12_forests_5 : decode cX12_forests 5 = .ok (.iload_n 1, 1) := by decide +kernel
theorem d_X12_forests_6 : decode cX12_forests 6 = .ok (.iconst 1, 1) := by decide +kernel
theorem d_X12_forests_7 : decode cX12_forests 7 = .ok (.iconst 5, 1) := by decide +kernel
theorem d_X12_forests_8 : decode cX12_forests 8 = .ok (.invokestatic 83, 3) := by decide +kernel
theorem d_X12_forests_11 : decode cX12_forests 11 = .ok (.ifCond .eq 11, 3) := by decide +kernel
theorem d_X12_forests_14 : decode cX12_forests 14 = .ok (.iload_n 1, 1) := by decide +kernel
theorem d_X12_forests_15 : decode cX12_forests 15 = .ok (.aload_n 0, 1) := by decide +kernel
theorem d_X12_forests_16 : decode cX12_forests 16 = .ok (.invokevirtual 197, 3) := by decide +kernel
theorem d_X12_forests_19 : decode cX12_forests 19 = .ok (.if_icmp .ne 5, 3) := by decide +kernel
theorem d_X12_forests_22 : decode cX12_forests 22 = .ok (.iconst (-1), 1) := by decide +kernel
theorem d_X12_forests_23 : decode cX12_forests 23 = .ok (.ireturn, 1) := by decide +kernel
theorem d_X12_forests_24 : decode cX12_forests 24 = .ok (.aload_n 0, 1) := by decide +kernel
theorem d_X12_forests_25 : decode cX12_forests 25 = .ok (.invokevirtual 215, 3) := by decide +kernel
theorem d_X12_forests_28 : decode cX12_forests 28 = .ok (.iconst 0, 1) := by decide +kernel
theorem d_X12_forests_29 : decode cX12_forests 29 = .ok (.istore_n 2, 1) := by decide +kernel
theorem d_X12_forests_30 : decode cX12_forests 30 = .ok (.iconst 0, 1) := by decide +kernel
theorem d_X12_forests_31 : decode cX12_forests 31 = .ok (.istore_n 3, 1) := by decide +kernel
theorem d_X12_forests_32 : decode cX12_forests 32 = .ok (.iload_n 3, 1) := by decide +kernel
theorem d_X12_forests_33 : decode cX12_forests 33 = .ok (.aload_n 0, 1) := by decide +kernel
theorem d_X12_forests_34 : decode cX12_forests 34 = .ok (.invokevirtual 194, 3) := by decide +kernel
theorem d_X12_forests_37 : decode cX12_forests 37 = .ok (.if_icmp .ge 34, 3) := by decide +kernel
theorem d_X12_forests_40 : decode cX12_forests 40 = .ok (.aload_n 0, 1) := by decide +kernel
theorem d_X12_forests_41 : decode cX12_forests 41 = .ok (.iload_n 3, 1) := by decide +kernel
theorem d_X12_forests_42 : decode cX12_forests 42 = .ok (.invokevirtual 203, 3) := by decide +kernel
theorem d_X12_forests_45 : decode cX12_forests 45 = .ok (.iload_n 1, 1) := by decide +kernel
theorem d_X12_forests_46 : decode cX12_forests 46 = .ok (.if_icmp .ge 6, 3) := by decide +kernel
theorem d_X12_forests_49 : decode cX12_forests 49 = .ok (.goto 16, 3) := by decide +kernel
theorem d_X12_forests_52 : decode cX12_forests 52 = .ok (.aload_n 0, 1) := by decide +kernel
theorem d_X12_forests_53 : decode cX12_forests 53 = .ok (.getfield 99, 3) := by decide +kernel
theorem d_X12_forests_56 : decode cX12_forests 56 = .ok (.bipush 75, 2) := by decide +kernel
theorem d_X12_forests_58 : decode cX12_forests 58 = .ok (.iload_n 3, 1) := by decide +kernel
theorem d_X12_forests_59 : decode cX12_forests 59 = .ok (.iadd, 1) := by decide +kernel
theorem d_X12_forests_60 : decode cX12_forests 60 = .ok (.iconst (-1), 1) := by decide +kernel
theorem d_X12_forests_61 : decode cX12_forests 61 = .ok (.iastore, 1) := by decide +kernel
theorem d_X12_forests_62 : decode cX12_forests 62 = .ok (.iinc 2 1, 3) := by decide +kernel
theorem d_X12_forests_65 : decode cX12_forests 65 = .ok (.iinc 3 1, 3) := by decide +kernel
theorem d_X12_forests_68 : decode cX12_forests 68 = .ok (.goto (-36), 3) := by decide +kernel
theorem d_X12_forests_71 : decode cX12_forests 71 = .ok (.aload_n 0, 1) := by decide +kernel
theorem d_X12_forests_72 : decode cX12_forests 72 = .ok (.getfield 99, 3) := by decide +kernel
theorem d_X12_forests_75 : decode cX12_forests 75 = .ok (.iconst 2, 1) := by decide +kernel
theorem d_X12_forests_76 : decode cX12_forests 76 = .ok (.iload_n 1, 1) := by decide +kernel
theorem d_X12_forests_77 : decode cX12_forests 77 = .ok (.iastore, 1) := by decide +kernel
theorem d_X12_forests_78 : decode cX12_forests 78 = .ok (.iload_n 2, 1) := by decide +kernel
theorem d_X12_forests_79 : decode cX12_forests 79 = .ok (.ireturn, 1) := by decide +kernel
theorem d_X12_isLine_0 : decode cX12_isLine 0 = .ok (.iload_n 1, 1) := by decide +kernel
theorem d_X12_isLine_1 : decode cX12_isLine 1 = .ok (.iconst 0, 1) := by decide +kernel
theorem d_X12_isLine_2 : decode cX12_isLine 2 = .ok (.aload_n 0, 1) := by decide +kernel
theorem d_X12_isLine_3 : decode cX12_isLine 3 = .ok (.invokevirtual 194, 3) := by decide +kernel
theorem d_X12_isLine_6 : decode cX12_isLine 6 = .ok (.iconst 1, 1) := by decide +kernel
theorem d_X12_isLine_7 : decode cX12_isLine 7 = .ok (.isub, 1) := by decide +kernel
theorem d_X12_isLine_8 : decode cX12_isLine 8 = .ok (.invokestatic 83, 3) := by decide +kernel
theorem d_X12_isLine_11 : decode cX12_isLine 11 = .ok (.ireturn, 1) := by decide +kernel
theorem d_X12_refuse_0 : decode cX12_refuse 0 = .ok (.aload_n 0, 1) := by decide +kernel
theorem d_X12_refuse_1 : decode cX12_refuse 1 = .ok (.iconst 1, 1) := by decide +kernel
theorem d_X12_refuse_2 : decode cX12_refuse 2 = .ok (.putfield 1, 3) := by decide +kernel
theorem d_X12_refuse_5 : decode cX12_refuse 5 = .ok (.iconst 0, 1) := by decide +kernel
theorem d_X12_refuse_6 : decode cX12_refuse 6 = .ok (.ireturn, 1) := by decide +kernel
theorem d_X12_line_0 : decode cX12_line 0 = .ok (.aload_n 0, 1) := by decide +kernel
theorem d_X12_line_1 : decode cX12_line 1 = .ok (.iconst 0, 1) := by decide +kernel
theorem d_X12_line_2 : decode cX12_line 2 = .ok (.putfield 1, 3) := by decide +kernel
theorem d_X12_line_5 : decode cX12_line 5 = .ok (.aload_n 0, 1) := by decide +kernel
theorem d_X12_line_6 : decode cX12_line 6 = .ok (.iload_n 1, 1) := by decide +kernel
theorem d_X12_line_7 : decode cX12_line 7 = .ok (.invokevirtual 218, 3) := by decide +kernel
theorem d_X12_line_10 : decode cX12_line 10 = .ok (.ifCond .ne 8, 3) := by decide +kernel
theorem d_X12_line_13 : decode cX12_line 13 = .ok (.aload_n 0, 1) := by decide +kernel
theorem d_X12_line_14 : decode cX12_line 14 = .ok (.invokevirtual 221, 3) := by decide +kernel
theorem d_X12_line_17 : decode cX12_line 17 = .ok (.ireturn, 1) := by decide +kernel
theorem d_X12_line_18 : decode cX12_line 18 = .ok (.iload_n 2, 1) := by decide +kernel
theorem d_X12_line_19 : decode cX12_line 19 = .ok (.tableswitch 78 0 4 #[33, 42, 52, 62, 68], 33) := by decide +kernel
theorem d_X12_line_52 : decode cX12_line 52 = .ok (.aload_n 0, 1) := by decide +kernel
theorem d_X12_line_53 : decode cX12_line 53 = .ok (.getfield 99, 3) := by decide +kernel
theorem d_X12_line_56 : decode cX12_line 56 = .ok (.iconst 3, 1) := by decide +kernel
theorem d_X12_line_57 : decode cX12_line 57 = .ok (.iload_n 1, 1) := by decide +kernel
theorem d_X12_line_58 : decode cX12_line 58 = .ok (.iadd, 1) := by decide +kernel
theorem d_X12_line_59 : decode cX12_line 59 = .ok (.iaload, 1) := by decide +kernel
theorem d_X12_line_60 : decode cX12_line 60 = .ok (.ireturn, 1) := by decide +kernel
theorem d_X12_line_61 : decode cX12_line 61 = .ok (.aload_n 0, 1) := by decide +kernel
theorem d_X12_line_62 : decode cX12_line 62 = .ok (.getfield 99, 3) := by decide +kernel
theorem d_X12_line_65 : decode cX12_line 65 = .ok (.bipush 27, 2) := by decide +kernel
theorem d_X12_line_67 : decode cX12_line 67 = .ok (.iload_n 1, 1) := by decide +kernel
theorem d_X12_line_68 : decode cX12_line 68 = .ok (.iadd, 1) := by decide +kernel
theorem d_X12_line_69 : decode cX12_line 69 = .ok (.iaload, 1) := by decide +kernel
theorem d_X12_line_70 : decode cX12_line 70 = .ok (.ireturn, 1) := by decide +kernel
theorem d_X12_line_71 : decode cX12_line 71 = .ok (.aload_n 0, 1) := by decide +kernel
theorem d_X12_line_72 : decode cX12_line 72 = .ok (.getfield 99, 3) := by decide +kernel
theorem d_X12_line_75 : decode cX12_line 75 = .ok (.bipush 51, 2) := by decide +kernel
theorem d_X12_line_77 : decode cX12_line 77 = .ok (.iload_n 1, 1) := by decide +kernel
theorem d_X12_line_78 : decode cX12_line 78 = .ok (.iadd, 1) := by decide +kernel
theorem d_X12_line_79 : decode cX12_line 79 = .ok (.iaload, 1) := by decide +kernel
theorem d_X12_line_80 : decode cX12_line 80 = .ok (.ireturn, 1) := by decide +kernel
theorem d_X12_line_81 : decode cX12_line 81 = .ok (.aload_n 0, 1) := by decide +kernel
theorem d_X12_line_82 : decode cX12_line 82 = .ok (.iload_n 1, 1) := by decide +kernel
theorem d_X12_line_83 : decode cX12_line 83 = .ok (.invokevirtual 203, 3) := by decide +kernel
theorem d_X12_line_86 : decode cX12_line 86 = .ok (.ireturn, 1) := by decide +kernel
theorem d_X12_line_87 : decode cX12_line 87 = .ok (.aload_n 0, 1) := by decide +kernel
theorem d_X12_line_88 : decode cX12_line 88 = .ok (.getfield 99, 3) := by decide +kernel
theorem d_X12_line_91 : decode cX12_line 91 = .ok (.bipush 99, 2) := by decide +kernel
theorem d_X12_line_93 : decode cX12_line 93 = .ok (.iload_n 1, 1) := by decide +kernel
theorem d_X12_line_94 : decode cX12_line 94 = .ok (.iadd, 1) := by decide +kernel
theorem d_X12_line_95 : decode cX12_line 95 = .ok (.iaload, 1) := by decide +kernel
theorem d_X12_line_96 : decode cX12_line 96 = .ok (.ireturn, 1) := by decide +kernel
theorem d_X12_line_97 : decode cX12_line 97 = .ok (.aload_n 0, 1) := by decide +kernel
theorem d_X12_line_98 : decode cX12_line 98 = .ok (.invokevirtual 221, 3) := by decide +kernel
theorem d_X12_line_101 : decode cX12_line 101 = .ok (.ireturn, 1) := by decide +kernel
theorem d_X12_isForest_0 : decode cX12_isForest 0 = .ok (.iload_n 1, 1) := by decide +kernel
theorem d_X12_isForest_1 : decode cX12_isForest 1 = .ok (.iconst 0, 1) := by decide +kernel
theorem d_X12_isForest_2 : decode cX12_isForest 2 = .ok (.aload_n 0, 1) := by decide +kernel
theorem d_X12_isForest_3 : decode cX12_isForest 3 = .ok (.invokevirtual 197, 3) := by decide +kernel
theorem d_X12_isForest_6 : decode cX12_isForest 6 = .ok (.iconst 1, 1) := by decide +kernel
theorem d_X12_isForest_7 : decode cX12_isForest 7 = .ok (.isub, 1) := by decide +kernel
theorem d_X12_isForest_8 : decode cX12_isForest 8 = .ok (.invokestatic 83, 3) := by decide +kernel
theorem d_X12_isForest_11 : decode cX12_isForest 11 = .ok (.ireturn, 1) := by decide +kernel
theorem d_X12_isBroken_0 : decode cX12_isBroken 0 = .ok (.aload_n 0, 1) := by decide +kernel
theorem d_X12_isBroken_1 : decode cX12_isBroken 1 = .ok (.getfield 99, 3) := by decide +kernel
theorem d_X12_isBroken_4 : decode cX12_isBroken 4 = .ok (.bipush 99, 2) := by decide +kernel
theorem d_X12_isBroken_6 : decode cX12_isBroken 6 = .ok (.iload_n 1, 1) := by decide +kernel
theorem d_X12_isBroken_7 : decode cX12_isBroken 7 = .ok (.iadd, 1) := by decide +kernel
theorem d_X12_isBroken_8 : decode cX12_isBroken 8 = .ok (.iaload, 1) := by decide +kernel
theorem d_X12_isBroken_9 : decode cX12_isBroken 9 = .ok (.iconst 1, 1) := by decide +kernel
theorem d_X12_isBroken_10 : decode cX12_isBroken 10 = .ok (.if_icmp .ne 7, 3) := by decide +kernel
theorem d_X12_isBroken_13 : decode cX12_isBroken 13 = .ok (.iconst 1, 1) := by decide +kernel
theorem d_X12_isBroken_14 : decode cX12_isBroken 14 = .ok (.goto 4, 3) := by decide +kernel
theorem d_X12_isBroken_17 : decode cX12_isBroken 17 = .ok (.iconst 0, 1) := by decide +kernel
theorem d_X12_isBroken_18 : decode cX12_isBroken 18 = .ok (.ireturn, 1) := by decide +kernel
theorem d_X12_inForest_0 : decode cX12_inForest 0 = .ok (.iconst 0, 1) := by decide +kernel
theorem d_X12_inForest_1 : decode cX12_inForest 1 = .ok (.istore_n 2, 1) := by decide +kernel
theorem d_X12_inForest_2 : decode cX12_inForest 2 = .ok (.iconst 0, 1) := by decide +kernel
theorem d_X12_inForest_3 : decode cX12_inForest 3 = .ok (.istore_n 3, 1) := by decide +kernel
theorem d_X12_inForest_4 : decode cX12_inForest 4 = .ok (.iload_n 3, 1) := by decide +kernel
theorem d_X12_inForest_5 : decode cX12_inForest 5 = .ok (.aload_n 0, 1) := by decide +kernel
theorem d_X12_inForest_6 : decode cX12_inForest 6 = .ok (.invokevirtual 194, 3) := by decide +kernel
theorem d_X12_inForest_9 : decode cX12_inForest 9 = .ok (.if_icmp .ge 24, 3) := by decide +kernel
theorem d_X12_inForest_12 : decode cX12_inForest 12 = .ok (.aload_n 0, 1) := by decide +kernel
theorem d_X12_inForest_13 : decode cX12_inForest 13 = .ok (.iload_n 3, 1) := by decide +kernel
theorem d_X12_inForest_14 : decode cX12_inForest 14 = .ok (.invokevirtual 203, 3) := by decide +kernel
theorem d_X12_inForest_17 : decode cX12_inForest 17 = .ok (.iload_n 1, 1) := by decide +kernel
theorem d_X12_inForest_18 : decode cX12_inForest 18 = .ok (.if_icmp .ne 9, 3) := by decide +kernel
theorem d_X12_inForest_21 : decode cX12_inForest 21 = .ok (.iload_n 2, 1) := by decide +kernel
theorem d_X12_inForest_22 : decode cX12_inForest 22 = .ok (.iconst 1, 1) := by decide +kernel
theorem d_X12_inForest_23 : decode cX12_inForest 23 = .ok (.iload_n 3, 1) := by decide +kernel
theorem d_X12_inForest_24 : decode cX12_inForest 24 = .ok (.ishl, 1) := by decide +kernel
theorem d_X12_inForest_25 : decode cX12_inForest 25 = .ok (.ior, 1) := by decide +kernel
theorem d_X12_inForest_26 : decode cX12_inForest 26 = .ok (.istore_n 2, 1) := by decide +kernel
theorem d_X12_inForest_27 : decode cX12_inForest 27 = .ok (.iinc 3 1, 3) := by decide +kernel
theorem d_X12_inForest_30 : decode cX12_inForest 30 = .ok (.goto (-26), 3) := by decide +kernel
theorem d_X12_inForest_33 : decode cX12_inForest 33 = .ok (.iload_n 2, 1) := by decide +kernel
theorem d_X12_inForest_34 : decode cX12_inForest 34 = .ok (.ireturn, 1) := by decide +kernel
theorem d_X12_has_0 : decode cX12_has 0 = .ok (.iload_n 0, 1) := by decide +kernel
theorem d_X12_has_1 : decode cX12_has 1 = .ok (.iload_n 1, 1) := by decide +kernel
theorem d_X12_has_2 : decode cX12_has 2 = .ok (.ishr, 1) := by decide +kernel
theorem d_X12_has_3 : decode cX12_has 3 = .ok (.iconst 1, 1) := by decide +kernel
theorem d_X12_has_4 : decode cX12_has 4 = .ok (.iand, 1) := by decide +kernel
theorem d_X12_has_5 : decode cX12_has 5 = .ok (.iconst 1, 1) := by decide +kernel
theorem d_X12_has_6 : decode cX12_has 6 = .ok (.if_icmp .ne 7, 3) := by decide +kernel
theorem d_X12_has_9 : decode cX12_has 9 = .ok (.iconst 1, 1) := by decide +kernel
theorem d_X12_has_10 : decode cX12_has 10 = .ok (.goto 4, 3) := by decide +kernel
theorem d_X12_has_13 : decode cX12_has 13 = .ok (.iconst 0, 1) := by decide +kernel
theorem d_X12_has_14 : decode cX12_has 14 = .ok (.ireturn, 1) := by decide +kernel
theorem d_X12_ends_0 : decode cX12_ends 0 = .ok (.iconst 1, 1) := by decide +kernel
theorem d_X12_ends_1 : decode cX12_ends 1 = .ok (.aload_n 0, 1) := by decide +kernel
theorem d_X12_ends_2 : decode cX12_ends 2 = .ok (.getfield 99, 3) := by decide +kernel
theorem d_X12_ends_5 : decode cX12_ends 5 = .ok (.iconst 3, 1) := by decide +kernel
theorem d_X12_ends_6 : decode cX12_ends 6 = .ok (.iload_n 1, 1) := by decide +kernel
theorem d_X12_ends_7 : decode cX12_ends 7 = .ok (.iadd, 1) := by decide +kernel
theorem d_X12_ends_8 : decode cX12_ends 8 = .ok (.iaload, 1) := by decide +kernel
theorem d_X12_ends_9 : decode cX12_ends 9 = .ok (.ishl, 1) := by decide +kernel
theorem d_X12_ends_10 : decode cX12_ends 10 = .ok (.iconst 1, 1) := by decide +kernel
theorem d_X12_ends_11 : decode cX12_ends 11 = .ok (.aload_n 0, 1) := by decide +kernel
theorem d_X12_ends_12 : decode cX12_ends 12 = .ok (.getfield 99, 3) := by decide +kernel
theorem d_X12_ends_15 : decode cX12_ends 15 = .ok (.bipush 27, 2) := by decide +kernel
theorem d_X12_ends_17 : decode cX12_ends 17 = .ok (.iload_n 1, 1) := by decide +kernel
theorem d_X12_ends_18 : decode cX12_ends 18 = .ok (.iadd, 1) := by decide +kernel
theorem d_X12_ends_19 : decode cX12_ends 19 = .ok (.iaload, 1) := by decide +kernel
theorem d_X12_ends_20 : decode cX12_ends 20 = .ok (.ishl, 1) := by decide +kernel
theorem d_X12_ends_21 : decode cX12_ends 21 = .ok (.ior, 1) := by decide +kernel
theorem d_X12_ends_22 : decode cX12_ends 22 = .ok (.ireturn, 1) := by decide +kernel
theorem d_X12_joined_0 : decode cX12_joined 0 = .ok (.iconst 1, 1) := by decide +kernel
theorem d_X12_joined_1 : decode cX12_joined 1 = .ok (.iload_n 1, 1) := by decide +kernel
theorem d_X12_joined_2 : decode cX12_joined 2 = .ok (.ishl, 1) := by decide +kernel
theorem d_X12_joined_3 : decode cX12_joined 3 = .ok (.istore_n 3, 1) := by decide +kernel
theorem d_X12_joined_4 : decode cX12_joined 4 = .ok (.iconst 0, 1) := by decide +kernel
theorem d_X12_joined_5 : decode cX12_joined 5 = .ok (.istore 4, 2) := by decide +kernel
theorem d_X12_joined_7 : decode cX12_joined 7 = .ok (.iload_n 3, 1) := by decide +kernel
theorem d_X12_joined_8 : decode cX12_joined 8 = .ok (.iload 4, 2) := by decide +kernel
theorem d_X12_joined_10 : decode cX12_joined 10 = .ok (.if_icmp .eq 56, 3) := by decide +kernel
theorem d_X12_joined_13 : decode cX12_joined 13 = .ok (.iload_n 3, 1) := by decide +kernel
theorem d_X12_joined_14 : decode cX12_joined 14 = .ok (.istore 4, 2) := by decide +kernel
theorem d_X12_joined_16 : decode cX12_joined 16 = .ok (.iconst 0, 1) := by decide +kernel
theorem d_X12_joined_17 : decode cX12_joined 17 = .ok (.istore 5, 2) := by decide +kernel
theorem d_X12_joined_19 : decode cX12_joined 19 = .ok (.iload 5, 2) := by decide +kernel
theorem d_X12_joined_21 : decode cX12_joined 21 = .ok (.aload_n 0, 1) := by decide +kernel
theorem d_X12_joined_22 : decode cX12_joined 22 = .ok (.invokevirtual 194, 3) := by decide +kernel
theorem d_X12_joined_25 : decode cX12_joined 25 = .ok (.if_icmp .ge 38, 3) := by decide +kernel
theorem d_X12_joined_28 : decode cX12_joined 28 = .ok (.iload_n 2, 1) := by decide +kernel
theorem d_X12_joined_29 : decode cX12_joined 29 = .ok (.iload 5, 2) := by decide +kernel
theorem d_X12_joined_31 : decode cX12_joined 31 = .ok (.invokestatic 206, 3) := by decide +kernel
theorem d_X12_joined_34 : decode cX12_joined 34 = .ok (.ifCond .eq 23, 3) := by decide +kernel
theorem d_X12_joined_37 : decode cX12_joined 37 = .ok (.aload_n 0, 1) := by decide +kernel
theorem d_X12_joined_38 : decode cX12_joined 38 = .ok (.iload 5, 2) := by decide +kernel
theorem d_X12_joined_40 : decode cX12_joined 40 = .ok (.invokevirtual 209, 3) := by decide +kernel
theorem d_X12_joined_43 : decode cX12_joined 43 = .ok (.iload_n 3, 1) := by decide +kernel
theorem d_X12_joined_44 : decode cX12_joined 44 = .ok (.iand, 1) := by decide +kernel
theorem d_X12_joined_45 : decode cX12_joined 45 = .ok (.ifCond .eq 12, 3) := by decide +kernel
theorem d_X12_joined_48 : decode cX12_joined 48 = .ok (.iload_n 3, 1) := by decide +kernel
theorem d_X12_joined_49 : decode cX12_joined 49 = .ok (.aload_n 0, 1) := by decide +kernel
theorem d_X12_joined_50 : decode cX12_joined 50 = .ok (.iload 5, 2) := by decide +kernel
theorem d_X12_joined_52 : decode cX12_joined 52 = .ok (.invokevirtual 209, 3) := by decide +kernel
theorem d_X12_joined_55 : decode cX12_joined 55 = .ok (.ior, 1) := by decide +kernel
theorem d_X12_joined_56 : decode cX12_joined 56 = .ok (.istore_n 3, 1) := by decide +kernel
theorem d_X12_joined_57 : decode cX12_joined 57 = .ok (.iinc 5 1, 3) := by decide +kernel
theorem d_X12_joined_60 : decode cX12_joined 60 = .ok (.goto (-41), 3) := by decide +kernel
theorem d_X12_joined_63 : decode cX12_joined 63 = .ok (.goto (-56), 3) := by decide +kernel
theorem d_X12_joined_66 : decode cX12_joined 66 = .ok (.iload_n 3, 1) := by decide +kernel
theorem d_X12_joined_67 : decode cX12_joined 67 = .ok (.ireturn, 1) := by decide +kernel
theorem d_X12_ringIn_0 : decode cX12_ringIn 0 = .ok (.aload_n 0, 1) := by decide +kernel
theorem d_X12_ringIn_1 : decode cX12_ringIn 1 = .ok (.getfield 99, 3) := by decide +kernel
theorem d_X12_ringIn_4 : decode cX12_ringIn 4 = .ok (.iconst 3, 1) := by decide +kernel
theorem d_X12_ringIn_5 : decode cX12_ringIn 5 = .ok (.iload_n 1, 1) := by decide +kernel
theorem d_X12_ringIn_6 : decode cX12_ringIn 6 = .ok (.iadd, 1) := by decide +kernel
theorem d_X12_ringIn_7 : decode cX12_ringIn 7 = .ok (.iaload, 1) := by decide +kernel
theorem d_X12_ringIn_8 : decode cX12_ringIn 8 = .ok (.istore_n 3, 1) := by decide +kernel
theorem d_X12_ringIn_9 : decode cX12_ringIn 9 = .ok (.aload_n 0, 1) := by decide +kernel
theorem d_X12_ringIn_10 : decode cX12_ringIn 10 = .ok (.getfield 99, 3) := by decide +kernel
theorem d_X12_ringIn_13 : decode cX12_ringIn 13 = .ok (.bipush 27, 2) := by decide +kernel
theorem d_X12_ringIn_15 : decode cX12_ringIn 15 = .ok (.iload_n 1, 1) := by decide +kernel
theorem d_X12_ringIn_16 : decode cX12_ringIn 16 = .ok (.iadd, 1) := by decide +kernel
theorem d_X12_ringIn_17 : decode cX12_ringIn 17 = .ok (.iaload, 1) := by decide +kernel
theorem d_X12_ringIn_18 : decode cX12_ringIn 18 = .ok (.istore 4, 2) := by decide +kernel
theorem d_X12_ringIn_20 : decode cX12_ringIn 20 = .ok (.aload_n 0, 1) := by decide +kernel
theorem d_X12_ringIn_21 : decode cX12_ringIn 21 = .ok (.iload_n 3, 1) := by decide +kernel
theorem d_X12_ringIn_22 : decode cX12_ringIn 22 = .ok (.iload_n 2, 1) := by decide +kernel
theorem d_X12_ringIn_23 : decode cX12_ringIn 23 = .ok (.invokevirtual 212, 3) := by decide +kernel
theorem d_X12_ringIn_26 : decode cX12_ringIn 26 = .ok (.iload 4, 2) := by decide +kernel
theorem d_X12_ringIn_28 : decode cX12_ringIn 28 = .ok (.invokestatic 206, 3) := by decide +kernel
theorem d_X12_ringIn_31 : decode cX12_ringIn 31 = .ok (.ifCond .ne 5, 3) := by decide +kernel
theorem d_X12_ringIn_34 : decode cX12_ringIn 34 = .ok (.iconst 0, 1) := by decide +kernel
theorem d_X12_ringIn_35 : decode cX12_ringIn 35 = .ok (.ireturn, 1) := by decide +kernel
theorem d_X12_ringIn_36 : decode cX12_ringIn 36 = .ok (.iconst 0, 1) := by decide +kernel
theorem d_X12_ringIn_37 : decode cX12_ringIn 37 = .ok (.istore 5, 2) := by decide +kernel
theorem d_X12_ringIn_39 : decode cX12_ringIn 39 = .ok (.iconst 0, 1) := by decide +kernel
theorem d_X12_ringIn_40 : decode cX12_ringIn 40 = .ok (.istore 6, 2) := by decide +kernel
theorem d_X12_ringIn_42 : decode cX12_ringIn 42 = .ok (.iload 6, 2) := by decide +kernel
theorem d_X12_ringIn_44 : decode cX12_ringIn 44 = .ok (.aload_n 0, 1) := by decide +kernel
theorem d_X12_ringIn_45 : decode cX12_ringIn 45 = .ok (.invokevirtual 194, 3) := by decide +kernel
theorem d_X12_ringIn_48 : decode cX12_ringIn 48 = .ok (.if_icmp .ge 48, 3) := by decide +kernel
theorem d_X12_ringIn_51 : decode cX12_ringIn 51 = .ok (.iload_n 2, 1) := by decide +kernel
theorem d_X12_ringIn_52 : decode cX12_ringIn 52 = .ok (.iload 6, 2) := by decide +kernel
theorem d_X12_ringIn_54 : decode cX12_ringIn 54 = .ok (.invokestatic 206, 3) := by decide +kernel
theorem d_X12_ringIn_57 : decode cX12_ringIn 57 = .ok (.ifCond .eq 33, 3) := by decide +kernel
theorem d_X12_ringIn_60 : decode cX12_ringIn 60 = .ok (.aload_n 0, 1) := by decide +kernel
theorem d_X12_ringIn_61 : decode cX12_ringIn 61 = .ok (.iload_n 3, 1) := by decide +kernel
theorem d_X12_ringIn_62 : decode cX12_ringIn 62 = .ok (.iload_n 2, 1) := by decide +kernel
theorem d_X12_ringIn_63 : decode cX12_ringIn 63 = .ok (.iconst 1, 1) := by decide +kernel
theorem d_X12_ringIn_64 : decode cX12_ringIn 64 = .ok (.iload 6, 2) := by decide +kernel
theorem d_X12_ringIn_66 : decode cX12_ringIn 66 = .ok (.ishl, 1) := by decide +kernel
theorem d_X12_ringIn_67 : decode cX12_ringIn 67 = .ok (.iconst (-1), 1) := by decide +kernel
theorem d_X12_ringIn_68 : decode cX12_ringIn 68 = .ok (.ixor, 1) := by decide +kernel
theorem d_X12_ringIn_69 : decode cX12_ringIn 69 = .ok (.iand, 1) := by decide +kernel
theorem d_X12_ringIn_70 : decode cX12_ringIn 70 = .ok (.invokevirtual 212, 3) := by decide +kernel
theorem d_X12_ringIn_73 : decode cX12_ringIn 73 = .ok (.iload 4, 2) := by decide +kernel
theorem d_X12_ringIn_75 : decode cX12_ringIn 75 = .ok (.invokestatic 206, 3) := by decide +kernel
theorem d_X12_ringIn_78 : decode cX12_ringIn 78 = .ok (.ifCond .ne 12, 3) := by decide +kernel
theorem d_X12_ringIn_81 : decode cX12_ringIn 81 = .ok (.iload 5, 2) := by decide +kernel
theorem d_X12_ringIn_83 : decode cX12_ringIn 83 = .ok (.iconst 1, 1) := by decide +kernel
theorem d_X12_ringIn_84 : decode cX12_ringIn 84 = .ok (.iload 6, 2) := by decide +kernel
theorem d_X12_ringIn_86 : decode cX12_ringIn 86 = .ok (.ishl, 1) := by decide +kernel
theorem d_X12_ringIn_87 : decode cX12_ringIn 87 = .ok (.ior, 1) := by decide +kernel
theorem d_X12_ringIn_88 : decode cX12_ringIn 88 = .ok (.istore 5, 2) := by decide +kernel
theorem d_X12_ringIn_90 : decode cX12_ringIn 90 = .ok (.iinc 6 1, 3) := by decide +kernel
theorem d_X12_ringIn_93 : decode cX12_ringIn 93 = .ok (.goto (-51), 3) := by decide +kernel
theorem d_X12_ringIn_96 : decode cX12_ringIn 96 = .ok (.iload 5, 2) := by decide +kernel
theorem d_X12_ringIn_98 : decode cX12_ringIn 98 = .ok (.ireturn, 1) := by decide +kernel
theorem d_X12_ring_0 : decode cX12_ring 0 = .ok (.aload_n 0, 1) := by decide +kernel
theorem d_X12_ring_1 : decode cX12_ring 1 = .ok (.iconst 0, 1) := by decide +kernel
theorem d_X12_ring_2 : decode cX12_ring 2 = .ok (.putfield 1, 3) := by decide +kernel
theorem d_X12_ring_5 : decode cX12_ring 5 = .ok (.aload_n 0, 1) := by decide +kernel
theorem d_X12_ring_6 : decode cX12_ring 6 = .ok (.iload_n 1, 1) := by decide +kernel
theorem d_X12_ring_7 : decode cX12_ring 7 = .ok (.invokevirtual 218, 3) := by decide +kernel
theorem d_X12_ring_10 : decode cX12_ring 10 = .ok (.ifCond .eq 28, 3) := by decide +kernel
theorem d_X12_ring_13 : decode cX12_ring 13 = .ok (.aload_n 0, 1) := by decide +kernel
theorem d_X12_ring_14 : decode cX12_ring 14 = .ok (.iload_n 2, 1) := by decide +kernel
theorem d_X12_ring_15 : decode cX12_ring 15 = .ok (.invokevirtual 224, 3) := by decide +kernel
theorem d_X12_ring_18 : decode cX12_ring 18 = .ok (.ifCond .eq 20, 3) := by decide +kernel
theorem d_X12_ring_21 : decode cX12_ring 21 = .ok (.aload_n 0, 1) := by decide +kernel
theorem d_X12_ring_22 : decode cX12_ring 22 = .ok (.iload_n 1, 1) := by decide +kernel
theorem d_X12_ring_23 : decode cX12_ring 23 = .ok (.invokevirtual 200, 3) := by decide +kernel
theorem d_X12_ring_26 : decode cX12_ring 26 = .ok (.ifCond .ne 12, 3) := by decide +kernel
theorem d_X12_ring_29 : decode cX12_ring 29 = .ok (.aload_n 0, 1) := by decide +kernel
theorem d_X12_ring_30 : decode cX12_ring 30 = .ok (.iload_n 1, 1) := by decide +kernel
theorem d_X12_ring_31 : decode cX12_ring 31 = .ok (.invokevirtual 203, 3) := by decide +kernel
theorem d_X12_ring_34 : decode cX12_ring 34 = .ok (.iload_n 2, 1) := by decide +kernel
theorem d_X12_ring_35 : decode cX12_ring 35 = .ok (.if_icmp .ne 8, 3) := by decide +kernel
theorem d_X12_ring_38 : decode cX12_ring 38 = .ok (.aload_n 0, 1) := by decide +kernel
theorem d_X12_ring_39 : decode cX12_ring 39 = .ok (.invokevirtual 221, 3) := by decide +kernel
theorem d_X12_ring_42 : decode cX12_ring 42 = .ok (.ireturn, 1) := by decide +kernel
theorem d_X12_ring_43 : decode cX12_ring 43 = .ok (.aload_n 0, 1) := by decide +kernel
theorem d_X12_ring_44 : decode cX12_ring 44 = .ok (.iload_n 1, 1) := by decide +kernel
theorem d_X12_ring_45 : decode cX12_ring 45 = .ok (.aload_n 0, 1) := by decide +kernel
theorem d_X12_ring_46 : decode cX12_ring 46 = .ok (.iload_n 2, 1) := by decide +kernel
theorem d_X12_ring_47 : decode cX12_ring 47 = .ok (.invokevirtual 227, 3) := by decide +kernel
theorem d_X12_ring_50 : decode cX12_ring 50 = .ok (.invokevirtual 230, 3) := by decide +kernel
theorem d_X12_ring_53 : decode cX12_ring 53 = .ok (.ireturn, 1) := by decide +kernel
theorem d_X12_forest_0 : decode cX12_forest 0 = .ok (.aload_n 0, 1) := by decide +kernel
theorem d_X12_forest_1 : decode cX12_forest 1 = .ok (.iconst 0, 1) := by decide +kernel
theorem d_X12_forest_2 : decode cX12_forest 2 = .ok (.putfield 1, 3) := by decide +kernel
theorem d_X12_forest_5 : decode cX12_forest 5 = .ok (.aload_n 0, 1) := by decide +kernel
theorem d_X12_forest_6 : decode cX12_forest 6 = .ok (.iload_n 1, 1) := by decide +kernel
theorem d_X12_forest_7 : decode cX12_forest 7 = .ok (.invokevirtual 224, 3) := by decide +kernel
theorem d_X12_forest_10 : decode cX12_forest 10 = .ok (.ifCond .eq 11, 3) := by decide +kernel
theorem d_X12_forest_13 : decode cX12_forest 13 = .ok (.aload_n 0, 1) := by decide +kernel
theorem d_X12_forest_14 : decode cX12_forest 14 = .ok (.iload_n 1, 1) := by decide +kernel
theorem d_X12_forest_15 : decode cX12_forest 15 = .ok (.invokevirtual 227, 3) := by decide +kernel
theorem d_X12_forest_18 : decode cX12_forest 18 = .ok (.goto 4, 3) := by decide +kernel
theorem d_X12_forest_21 : decode cX12_forest 21 = .ok (.iconst (-1), 1) := by decide +kernel
theorem d_X12_forest_22 : decode cX12_forest 22 = .ok (.ireturn, 1) := by decide +kernel
theorem d_X12_points_0 : decode cX12_points 0 = .ok (.aload_n 0, 1) := by decide +kernel
theorem d_X12_points_1 : decode cX12_points 1 = .ok (.getfield 99, 3) := by decide +kernel
theorem d_X12_points_4 : decode cX12_points 4 = .ok (.iconst 0, 1) := by decide +kernel
theorem d_X12_points_5 : decode cX12_points 5 = .ok (.iaload, 1) := by decide +kernel
theorem d_X12_points_6 : decode cX12_points 6 = .ok (.ireturn, 1) := by decide +kernel
theorem d_X12_pieces_0 : decode cX12_pieces 0 = .ok (.iconst 1, 1) := by decide +kernel
theorem d_X12_pieces_1 : decode cX12_pieces 1 = .ok (.aload_n 0, 1) := by decide +kernel
theorem d_X12_pieces_2 : decode cX12_pieces 2 = .ok (.invokevirtual 191, 3) := by decide +kernel
theorem d_X12_pieces_5 : decode cX12_pieces 5 = .ok (.ishl, 1) := by decide +kernel
theorem d_X12_pieces_6 : decode cX12_pieces 6 = .ok (.iconst 1, 1) := by decide +kernel
theorem d_X12_pieces_7 : decode cX12_pieces 7 = .ok (.isub, 1) := by decide +kernel
theorem d_X12_pieces_8 : decode cX12_pieces 8 = .ok (.istore_n 2, 1) := by decide +kernel
theorem d_X12_pieces_9 : decode cX12_pieces 9 = .ok (.iconst 0, 1) := by decide +kernel
theorem d_X12_pieces_10 : decode cX12_pieces 10 = .ok (.istore_n 3, 1) := by decide +kernel
theorem d_X12_pieces_11 : decode cX12_pieces 11 = .ok (.iconst 0, 1) := by decide +kernel
theorem d_X12_pieces_12 : decode cX12_pieces 12 = .ok (.istore 4, 2) := by decide +kernel
theorem d_X12_pieces_14 : decode cX12_pieces 14 = .ok (.iload 4, 2) := by decide +kernel
theorem d_X12_pieces_16 : decode cX12_pieces 16 = .ok (.aload_n 0, 1) := by decide +kernel
theorem d_X12_pieces_17 : decode cX12_pieces 17 = .ok (.invokevirtual 191, 3) := by decide +kernel
theorem d_X12_pieces_20 : decode cX12_pieces 20 = .ok (.if_icmp .ge 36, 3) := by decide +kernel
theorem d_X12_pieces_23 : decode cX12_pieces 23 = .ok (.iload_n 2, 1) := by decide +kernel
theorem d_X12_pieces_24 : decode cX12_pieces 24 = .ok (.iload 4, 2) := by decide +kernel
theorem d_X12_pieces_26 : decode cX12_pieces 26 = .ok (.invokestatic 206, 3) := by decide +kernel
theorem d_X12_pieces_29 : decode cX12_pieces 29 = .ok (.ifCond .ne 6, 3) := by decide +kernel
theorem d_X12_pieces_32 : decode cX12_pieces 32 = .ok (.goto 18, 3) := by decide +kernel
theorem d_X12_pieces_35 : decode cX12_pieces 35 = .ok (.iload_n 2, 1) := by decide +kernel
theorem d_X12_pieces_36 : decode cX12_pieces 36 = .ok (.aload_n 0, 1) := by decide +kernel
theorem d_X12_pieces_37 : decode cX12_pieces 37 = .ok (.iload 4, 2) := by decide +kernel
theorem d_X12_pieces_39 : decode cX12_pieces 39 = .ok (.iload_n 1, 1) := by decide +kernel
theorem d_X12_pieces_40 : decode cX12_pieces 40 = .ok (.invokevirtual 212, 3) := by decide +kernel
theorem d_X12_pieces_43 : decode cX12_pieces 43 = .ok (.iconst (-1), 1) := by decide +kernel
theorem d_X12_pieces_44 : decode cX12_pieces 44 = .ok (.ixor, 1) := by decide +kernel
theorem d_X12_pieces_45 : decode cX12_pieces 45 = .ok (.iand, 1) := by decide +kernel
theorem d_X12_pieces_46 : decode cX12_pieces 46 = .ok (.istore_n 2, 1) := by decide +kernel
theorem d_X12_pieces_47 : decode cX12_pieces 47 = .ok (.iinc 3 1, 3) := by decide +kernel
theorem d_X12_pieces_50 : decode cX12_pieces 50 = .ok (.iinc 4 1, 3) := by decide +kernel
theorem d_X12_pieces_53 : decode cX12_pieces 53 = .ok (.goto (-39), 3) := by decide +kernel
theorem d_X12_pieces_56 : decode cX12_pieces 56 = .ok (.iload_n 3, 1) := by decide +kernel
theorem d_X12_pieces_57 : decode cX12_pieces 57 = .ok (.ireturn, 1) := by decide +kernel
theorem d_X12_sound_0 : decode cX12_sound 0 = .ok (.iconst 0, 1) := by decide +kernel
theorem d_X12_sound_1 : decode cX12_sound 1 = .ok (.istore_n 1, 1) := by decide +kernel
theorem d_X12_sound_2 : decode cX12_sound 2 = .ok (.iconst 0, 1) := by decide +kernel
theorem d_X12_sound_3 : decode cX12_sound 3 = .ok (.istore_n 2, 1) := by decide +kernel
theorem d_X12_sound_4 : decode cX12_sound 4 = .ok (.iload_n 2, 1) := by decide +kernel
theorem d_X12_sound_5 : decode cX12_sound 5 = .ok (.aload_n 0, 1) := by decide +kernel
theorem d_X12_sound_6 : decode cX12_sound 6 = .ok (.invokevirtual 194, 3) := by decide +kernel
theorem d_X12_sound_9 : decode cX12_sound 9 = .ok (.if_icmp .ge 23, 3) := by decide +kernel
theorem d_X12_sound_12 : decode cX12_sound 12 = .ok (.aload_n 0, 1) := by decide +kernel
theorem d_X12_sound_13 : decode cX12_sound 13 = .ok (.iload_n 2, 1) := by decide +kernel
theorem d_X12_sound_14 : decode cX12_sound 14 = .ok (.invokevirtual 200, 3) := by decide +kernel
theorem d_X12_sound_17 : decode cX12_sound 17 = .ok (.ifCond .ne 9, 3) := by decide +kernel
theorem d_X12_sound_20 : decode cX12_sound 20 = .ok (.iload_n 1, 1) := by decide +kernel
theorem d_X12_sound_21 : decode cX12_sound 21 = .ok (.iconst 1, 1) := by decide +kernel
theorem d_X12_sound_22 : decode cX12_sound 22 = .ok (.iload_n 2, 1) := by decide +kernel
theorem d_X12_sound_23 : decode cX12_sound 23 = .ok (.ishl, 1) := by decide +kernel
theorem d_X12_sound_24 : decode cX12_sound 24 = .ok (.ior, 1) := by decide +kernel
theorem d_X12_sound_25 : decode cX12_sound 25 = .ok (.istore_n 1, 1) := by decide +kernel
theorem d_X12_sound_26 : decode cX12_sound 26 = .ok (.iinc 2 1, 3) := by decide +kernel
theorem d_X12_sound_29 : decode cX12_sound 29 = .ok (.goto (-25), 3) := by decide +kernel
theorem d_X12_sound_32 : decode cX12_sound 32 = .ok (.iload_n 1, 1) := by decide +kernel
theorem d_X12_sound_33 : decode cX12_sound 33 = .ok (.ireturn, 1) := by decide +kernel
theorem d_X12_bits_0 : decode cX12_bits 0 = .ok (.iconst 0, 1) := by decide +kernel
theorem d_X12_bits_1 : decode cX12_bits 1 = .ok (.istore_n 1, 1) := by decide +kernel
theorem d_X12_bits_2 : decode cX12_bits 2 = .ok (.iload_n 0, 1) := by decide +kernel
theorem d_X12_bits_3 : decode cX12_bits 3 = .ok (.istore_n 2, 1) := by decide +kernel
theorem d_X12_bits_4 : decode cX12_bits 4 = .ok (.iload_n 2, 1) := by decide +kernel
theorem d_X12_bits_5 : decode cX12_bits 5 = .ok (.ifCond .eq 15, 3) := by decide +kernel
theorem d_X12_bits_8 : decode cX12_bits 8 = .ok (.iinc 1 1, 3) := by decide +kernel
theorem d_X12_bits_11 : decode cX12_bits 11 = .ok (.iload_n 2, 1) := by decide +kernel
theorem d_X12_bits_12 : decode cX12_bits 12 = .ok (.iload_n 2, 1) := by decide +kernel
theorem d_X12_bits_13 : decode cX12_bits 13 = .ok (.iconst 1, 1) := by decide +kernel
theorem d_X12_bits_14 : decode cX12_bits 14 = .ok (.isub, 1) := by decide +kernel
theorem d_X12_bits_15 : decode cX12_bits 15 = .ok (.iand, 1) := by decide +kernel
theorem d_X12_bits_16 : decode cX12_bits 16 = .ok (.istore_n 2, 1) := by decide +kernel
theorem d_X12_bits_17 : decode cX12_bits 17 = .ok (.goto (-13), 3) := by decide +kernel
theorem d_X12_bits_20 : decode cX12_bits 20 = .ok (.iload_n 1, 1) := by decide +kernel
theorem d_X12_bits_21 : decode cX12_bits 21 = .ok (.ireturn, 1) := by decide +kernel
theorem d_X12_now_0 : decode cX12_now 0 = .ok (.aload_n 0, 1) := by decide +kernel
theorem d_X12_now_1 : decode cX12_now 1 = .ok (.iconst 0, 1) := by decide +kernel
theorem d_X12_now_2 : decode cX12_now 2 = .ok (.putfield 1, 3) := by decide +kernel
theorem d_X12_now_5 : decode cX12_now 5 = .ok (.iload_n 1, 1) := by decide +kernel
theorem d_X12_now_6 : decode cX12_now 6 = .ok (.tableswitch 134 0 8 #[50, 55, 60, 65, 73, 105, 114, 124, 129], 50) := by decide +kernel
theorem d_X12_now_56 : decode cX12_now 56 = .ok (.aload_n 0, 1) := by decide +kernel
theorem d_X12_now_57 : decode cX12_now 57 = .ok (.invokevirtual 191, 3) := by decide +kernel
theorem d_X12_now_60 : decode cX12_now 60 = .ok (.ireturn, 1) := by decide +kernel
theorem d_X12_now_61 : decode cX12_now 61 = .ok (.aload_n 0, 1) := by decide +kernel
theorem d_X12_now_62 : decode cX12_now 62 = .ok (.invokevirtual 194, 3) := by decide +kernel
theorem d_X12_now_65 : decode cX12_now 65 = .ok (.ireturn, 1) := by decide +kernel
theorem d_X12_now_66 : decode cX12_now 66 = .ok (.aload_n 0, 1) := by decide +kernel
theorem d_X12_now_67 : decode cX12_now 67 = .ok (.invokevirtual 197, 3) := by decide +kernel
theorem d_X12_now_70 : decode cX12_now 70 = .ok (.ireturn, 1) := by decide +kernel
theorem d_X12_now_71 : decode cX12_now 71 = .ok (.aload_n 0, 1) := by decide +kernel
theorem d_X12_now_72 : decode cX12_now 72 = .ok (.invokevirtual 233, 3) := by decide +kernel
theorem d_X12_now_75 : decode cX12_now 75 = .ok (.invokestatic 236, 3) := by decide +kernel
theorem d_X12_now_78 : decode cX12_now 78 = .ok (.ireturn, 1) := by decide +kernel
theorem d_X12_now_79 : decode cX12_now 79 = .ok (.iconst 0, 1) := by decide +kernel
theorem d_X12_now_80 : decode cX12_now 80 = .ok (.istore_n 2, 1) := by decide +kernel
theorem d_X12_now_81 : decode cX12_now 81 = .ok (.iconst 0, 1) := by decide +kernel
theorem d_X12_now_82 : decode cX12_now 82 = .ok (.istore_n 3, 1) := by decide +kernel
theorem d_X12_now_83 : decode cX12_now 83 = .ok (.iload_n 3, 1) := by decide +kernel
theorem d_X12_now_84 : decode cX12_now 84 = .ok (.aload_n 0, 1) := by decide +kernel
theorem d_X12_now_85 : decode cX12_now 85 = .ok (.invokevirtual 194, 3) := by decide +kernel
theorem d_X12_now_88 : decode cX12_now 88 = .ok (.if_icmp .ge 21, 3) := by decide +kernel
theorem d_X12_now_91 : decode cX12_now 91 = .ok (.aload_n 0, 1) := by decide +kernel
theorem d_X12_now_92 : decode cX12_now 92 = .ok (.iload_n 3, 1) := by decide +kernel
theorem d_X12_now_93 : decode cX12_now 93 = .ok (.invokevirtual 203, 3) := by decide +kernel
theorem d_X12_now_96 : decode cX12_now 96 = .ok (.iconst (-1), 1) := by decide +kernel
theorem d_X12_now_97 : decode cX12_now 97 = .ok (.if_icmp .eq 6, 3) := by decide +kernel
theorem d_X12_now_100 : decode cX12_now 100 = .ok (.iinc 2 1, 3) := by decide +kernel
theorem d_X12_now_103 : decode cX12_now 103 = .ok (.iinc 3 1, 3) := by decide +kernel
theorem d_X12_now_106 : decode cX12_now 106 = .ok (.goto (-23), 3) := by decide +kernel
theorem d_X12_now_109 : decode cX12_now 109 = .ok (.iload_n 2, 1) := by decide +kernel
theorem d_X12_now_110 : decode cX12_now 110 = .ok (.ireturn, 1) := by decide +kernel
theorem d_X12_now_111 : decode cX12_now 111 = .ok (.aload_n 0, 1) := by decide +kernel
theorem d_X12_now_112 : decode cX12_now 112 = .ok (.aload_n 0, 1) := by decide +kernel
theorem d_X12_now_113 : decode cX12_now 113 = .ok (.invokevirtual 233, 3) := by decide +kernel
theorem d_X12_now_116 : decode cX12_now 116 = .ok (.invokevirtual 239, 3) := by decide +kernel
theorem d_X12_now_119 : decode cX12_now 119 = .ok (.ireturn, 1) := by decide +kernel
theorem d_X12_now_120 : decode cX12_now 120 = .ok (.aload_n 0, 1) := by decide +kernel
theorem d_X12_now_121 : decode cX12_now 121 = .ok (.aload_n 0, 1) := by decide +kernel
theorem d_X12_now_122 : decode cX12_now 122 = .ok (.iconst 0, 1) := by decide +kernel
theorem d_X12_now_123 : decode cX12_now 123 = .ok (.invokevirtual 227, 3) := by decide +kernel
theorem d_X12_now_126 : decode cX12_now 126 = .ok (.invokevirtual 239, 3) := by decide +kernel
theorem d_X12_now_129 : decode cX12_now 129 = .ok (.ireturn, 1) := by decide +kernel
theorem d_X12_now_130 : decode cX12_now 130 = .ok (.aload_n 0, 1) := by decide +kernel
theorem d_X12_now_131 : decode cX12_now 131 = .ok (.getfield 188, 3) := by decide +kernel
theorem d_X12_now_134 : decode cX12_now 134 = .ok (.ireturn, 1) := by decide +kernel
theorem d_X12_now_135 : decode cX12_now 135 = .ok (.aload_n 0, 1) := by decide +kernel
theorem d_X12_now_136 : decode cX12_now 136 = .ok (.getfield 15, 3) := by decide +kernel
theorem d_X12_now_139 : decode cX12_now 139 = .ok (.ireturn, 1) := by decide +kernel
theorem d_X12_now_140 : decode cX12_now 140 = .ok (.iconst (-1), 1) := by decide +kernel
theorem d_X12_now_141 : decode cX12_now 141 = .ok (.ireturn, 1) := by decide +kernel
theorem d_X12_whyNotPut_0 : decode cX12_whyNotPut 0 = .ok (.aload_n 0, 1) := by decide +kernel
theorem d_X12_whyNotPut_1 : decode cX12_whyNotPut 1 = .ok (.iload_n 1, 1) := by decide +kernel
theorem d_X12_whyNotPut_2 : decode cX12_whyNotPut 2 = .ok (.invokevirtual 200, 3) := by decide +kernel
theorem d_X12_whyNotPut_5 : decode cX12_whyNotPut 5 = .ok (.ifCond .eq 7, 3) := by decide +kernel
theorem d_X12_whyNotPut_8 : decode cX12_whyNotPut 8 = .ok (.iconst 1, 1) := by decide +kernel
theorem d_X12_whyNotPut_9 : decode cX12_whyNotPut 9 = .ok (.goto 34, 3) := by decide +kernel
theorem d_X12_whyNotPut_12 : decode cX12_whyNotPut 12 = .ok (.aload_n 0, 1) := by decide +kernel
theorem d_X12_whyNotPut_13 : decode cX12_whyNotPut 13 = .ok (.iload_n 1, 1) := by decide +kernel
theorem d_X12_whyNotPut_14 : decode cX12_whyNotPut 14 = .ok (.invokevirtual 203, 3) := by decide +kernel
theorem d_X12_whyNotPut_17 : decode cX12_whyNotPut 17 = .ok (.iconst (-1), 1) := by decide +kernel
theorem d_X12_whyNotPut_18 : decode cX12_whyNotPut 18 = .ok (.if_icmp .eq 7, 3) := by decide +kernel
theorem d_X12_whyNotPut_21 : decode cX12_whyNotPut 21 = .ok (.iconst 2, 1) := by decide +kernel
theorem d_X12_whyNotPut_22 : decode cX12_whyNotPut 22 = .ok (.goto 21, 3) := by decide +kernel
theorem d_X12_whyNotPut_25 : decode cX12_whyNotPut 25 = .ok (.aload_n 0, 1) := by decide +kernel
theorem d_X12_whyNotPut_26 : decode cX12_whyNotPut 26 = .ok (.iload_n 1, 1) := by decide +kernel
theorem d_X12_whyNotPut_27 : decode cX12_whyNotPut 27 = .ok (.aload_n 0, 1) := by decide +kernel
theorem d_X12_whyNotPut_28 : decode cX12_whyNotPut 28 = .ok (.iload_n 2, 1) := by decide +kernel
theorem d_X12_whyNotPut_29 : decode cX12_whyNotPut 29 = .ok (.invokevirtual 227, 3) := by decide +kernel
theorem d_X12_whyNotPut_32 : decode cX12_whyNotPut 32 = .ok (.invokevirtual 230, 3) := by decide +kernel
theorem d_X12_whyNotPut_35 : decode cX12_whyNotPut 35 = .ok (.ifCond .eq 7, 3) := by decide +kernel
theorem d_X12_whyNotPut_38 : decode cX12_whyNotPut 38 = .ok (.iconst 3, 1) := by decide +kernel
theorem d_X12_whyNotPut_39 : decode cX12_whyNotPut 39 = .ok (.goto 4, 3) := by decide +kernel
theorem d_X12_whyNotPut_42 : decode cX12_whyNotPut 42 = .ok (.iconst 0, 1) := by decide +kernel
theorem d_X12_whyNotPut_43 : decode cX12_whyNotPut 43 = .ok (.ireturn, 1) := by decide +kernel
theorem d_X12_put_0 : decode cX12_put 0 = .ok (.aload_n 0, 1) := by decide +kernel
theorem d_X12_put_1 : decode cX12_put 1 = .ok (.iconst 0, 1) := by decide +kernel
theorem d_X12_put_2 : decode cX12_put 2 = .ok (.putfield 1, 3) := by decide +kernel
theorem d_X12_put_5 : decode cX12_put 5 = .ok (.aload_n 0, 1) := by decide +kernel
theorem d_X12_put_6 : decode cX12_put 6 = .ok (.iload_n 1, 1) := by decide +kernel
theorem d_X12_put_7 : decode cX12_put 7 = .ok (.invokevirtual 218, 3) := by decide +kernel
theorem d_X12_put_10 : decode cX12_put 10 = .ok (.ifCond .eq 11, 3) := by decide +kernel
theorem d_X12_put_13 : decode cX12_put 13 = .ok (.aload_n 0, 1) := by decide +kernel
theorem d_X12_put_14 : decode cX12_put 14 = .ok (.iload_n 2, 1) := by decide +kernel
theorem d_X12_put_15 : decode cX12_put 15 = .ok (.invokevirtual 224, 3) := by decide +kernel
theorem d_X12_put_18 : decode cX12_put 18 = .ok (.ifCond .ne 5, 3) := by decide +kernel
theorem d_X12_put_21 : decode cX12_put 21 = .ok (.iconst (-1), 1) := by decide +kernel
theorem d_X12_put_22 : decode cX12_put 22 = .ok (.ireturn, 1) := by decide +kernel
theorem d_X12_put_23 : decode cX12_put 23 = .ok (.aload_n 0, 1) := by decide +kernel
theorem d_X12_put_24 : decode cX12_put 24 = .ok (.iload_n 1, 1) := by decide +kernel
theorem d_X12_put_25 : decode cX12_put 25 = .ok (.iload_n 2, 1) := by decide +kernel
theorem d_X12_put_26 : decode cX12_put 26 = .ok (.invokevirtual 242, 3) := by decide +kernel
theorem d_X12_put_29 : decode cX12_put 29 = .ok (.istore_n 3, 1) := by decide +kernel
theorem d_X12_put_30 : decode cX12_put 30 = .ok (.iload_n 3, 1) := by decide +kernel
theorem d_X12_put_31 : decode cX12_put 31 = .ok (.ifCond .eq 5, 3) := by decide +kernel
theorem d_X12_put_34 : decode cX12_put 34 = .ok (.iload_n 3, 1) := by decide +kernel
theorem d_X12_put_35 : decode cX12_put 35 = .ok (.ireturn, 1) := by decide +kernel
theorem d_X12_put_36 : decode cX12_put 36 = .ok (.aload_n 0, 1) := by decide +kernel
theorem d_X12_put_37 : decode cX12_put 37 = .ok (.invokevirtual 215, 3) := by decide +kernel
theorem d_X12_put_40 : decode cX12_put 40 = .ok (.aload_n 0, 1) := by decide +kernel
theorem d_X12_put_41 : decode cX12_put 41 = .ok (.getfield 99, 3) := by decide +kernel
theorem d_X12_put_44 : decode cX12_put 44 = .ok (.bipush 75, 2) := by decide +kernel
theorem d_X12_put_46 : decode cX12_put 46 = .ok (.iload_n 1, 1) := by decide +kernel
theorem d_X12_put_47 : decode cX12_put 47 = .ok (.iadd, 1) := by decide +kernel
theorem d_X12_put_48 : decode cX12_put 48 = .ok (.iload_n 2, 1) := by decide +kernel
theorem d_X12_put_49 : decode cX12_put 49 = .ok (.iastore, 1) := by decide +kernel
theorem d_X12_put_50 : decode cX12_put 50 = .ok (.iconst 0, 1) := by decide +kernel
theorem d_X12_put_51 : decode cX12_put 51 = .ok (.ireturn, 1) := by decide +kernel
theorem d_X12_lift_0 : decode cX12_lift 0 = .ok (.aload_n 0, 1) := by decide +kernel
theorem d_X12_lift_1 : decode cX12_lift 1 = .ok (.iconst 0, 1) := by decide +kernel
theorem d_X12_lift_2 : decode cX12_lift 2 = .ok (.putfield 1, 3) := by decide +kernel
theorem d_X12_lift_5 : decode cX12_lift 5 = .ok (.aload_n 0, 1) := by decide +kernel
theorem d_X12_lift_6 : decode cX12_lift 6 = .ok (.iload_n 1, 1) := by decide +kernel
theorem d_X12_lift_7 : decode cX12_lift 7 = .ok (.invokevirtual 218, 3) := by decide +kernel
theorem d_X12_lift_10 : decode cX12_lift 10 = .ok (.ifCond .eq 12, 3) := by decide +kernel
theorem d_X12_lift_13 : decode cX12_lift 13 = .ok (.aload_n 0, 1) := by decide +kernel
theorem d_X12_lift_14 : decode cX12_lift 14 = .ok (.iload_n 1, 1) := by decide +kernel
theorem d_X12_lift_15 : decode cX12_lift 15 = .ok (.invokevirtual 203, 3) := by decide +kernel
theorem d_X12_lift_18 : decode cX12_lift 18 = .ok (.iconst (-1), 1) := by decide +kernel
theorem d_X12_lift_19 : decode cX12_lift 19 = .ok (.if_icmp .ne 5, 3) := by decide +kernel
theorem d_X12_lift_22 : decode cX12_lift 22 = .ok (.iconst (-1), 1) := by decide +kernel
theorem d_X12_lift_23 : decode cX12_lift 23 = .ok (.ireturn, 1) := by decide +kernel
theorem d_X12_lift_24 : decode cX12_lift 24 = .ok (.aload_n 0, 1) := by decide +kernel
theorem d_X12_lift_25 : decode cX12_lift 25 = .ok (.invokevirtual 215, 3) := by decide +kernel
theorem d_X12_lift_28 : decode cX12_lift 28 = .ok (.aload_n 0, 1) := by decide +kernel
theorem d_X12_lift_29 : decode cX12_lift 29 = .ok (.iload_n 1, 1) := by decide +kernel
theorem d_X12_lift_30 : decode cX12_lift 30 = .ok (.invokevirtual 203, 3) := by decide +kernel
theorem d_X12_lift_33 : decode cX12_lift 33 = .ok (.istore_n 2, 1) := by decide +kernel
theorem d_X12_lift_34 : decode cX12_lift 34 = .ok (.aload_n 0, 1) := by decide +kernel
theorem d_X12_lift_35 : decode cX12_lift 35 = .ok (.getfield 99, 3) := by decide +kernel
theorem d_X12_lift_38 : decode cX12_lift 38 = .ok (.bipush 75, 2) := by decide +kernel
theorem d_X12_lift_40 : decode cX12_lift 40 = .ok (.iload_n 1, 1) := by decide +kernel
theorem d_X12_lift_41 : decode cX12_lift 41 = .ok (.iadd, 1) := by decide +kernel
theorem d_X12_lift_42 : decode cX12_lift 42 = .ok (.iconst (-1), 1) := by decide +kernel
theorem d_X12_lift_43 : decode cX12_lift 43 = .ok (.iastore, 1) := by decide +kernel
theorem d_X12_lift_44 : decode cX12_lift 44 = .ok (.iload_n 2, 1) := by decide +kernel
theorem d_X12_lift_45 : decode cX12_lift 45 = .ok (.ireturn, 1) := by decide +kernel
theorem d_X12_isLoose_0 : decode cX12_isLoose 0 = .ok (.aload_n 0, 1) := by decide +kernel
theorem d_X12_isLoose_1 : decode cX12_isLoose 1 = .ok (.iload_n 1, 1) := by decide +kernel
theorem d_X12_isLoose_2 : decode cX12_isLoose 2 = .ok (.invokevirtual 200, 3) := by decide +kernel
theorem d_X12_isLoose_5 : decode cX12_isLoose 5 = .ok (.ifCond .ne 16, 3) := by decide +kernel
theorem d_X12_isLoose_8 : decode cX12_isLoose 8 = .ok (.aload_n 0, 1) := by decide +kernel
theorem d_X12_isLoose_9 : decode cX12_isLoose 9 = .ok (.iload_n 1, 1) := by decide +kernel
theorem d_X12_isLoose_10 : decode cX12_isLoose 10 = .ok (.invokevirtual 203, 3) := by decide +kernel
theorem d_X12_isLoose_13 : decode cX12_isLoose 13 = .ok (.iconst (-1), 1) := by decide +kernel
theorem d_X12_isLoose_14 : decode cX12_isLoose 14 = .ok (.if_icmp .ne 7, 3) := by decide +kernel
theorem d_X12_isLoose_17 : decode cX12_isLoose 17 = .ok (.iconst 1, 1) := by decide +kernel
theorem d_X12_isLoose_18 : decode cX12_isLoose 18 = .ok (.goto 4, 3) := by decide +kernel
theorem d_X12_isLoose_21 : decode cX12_isLoose 21 = .ok (.iconst 0, 1) := by decide +kernel
theorem d_X12_isLoose_22 : decode cX12_isLoose 22 = .ok (.ireturn, 1) := by decide +kernel
theorem d_X12_laysRings_0 : decode cX12_laysRings 0 = .ok (.iconst 0, 1) := by decide +kernel
theorem d_X12_laysRings_1 : decode cX12_laysRings 1 = .ok (.istore_n 1, 1) := by decide +kernel
theorem d_X12_laysRings_2 : decode cX12_laysRings 2 = .ok (.iload_n 1, 1) := by decide +kernel
theorem d_X12_laysRings_3 : decode cX12_laysRings 3 = .ok (.aload_n 0, 1) := by decide +kernel
theorem d_X12_laysRings_4 : decode cX12_laysRings 4 = .ok (.invokevirtual 194, 3) := by decide +kernel
theorem d_X12_laysRings_7 : decode cX12_laysRings 7 = .ok (.if_icmp .ge 66, 3) := by decide +kernel
theorem d_X12_laysRings_10 : decode cX12_laysRings 10 = .ok (.iconst 0, 1) := by decide +kernel
theorem d_X12_laysRings_11 : decode cX12_laysRings 11 = .ok (.istore_n 2, 1) := by decide +kernel
theorem d_X12_laysRings_12 : decode cX12_laysRings 12 = .ok (.iload_n 2, 1) := by decide +kernel
theorem d_X12_laysRings_13 : decode cX12_laysRings 13 = .ok (.aload_n 0, 1) := by decide +kernel
theorem d_X12_laysRings_14 : decode cX12_laysRings 14 = .ok (.invokevirtual 197, 3) := by decide +kernel
theorem d_X12_laysRings_17 : decode cX12_laysRings 17 = .ok (.if_icmp .ge 50, 3) := by decide +kernel
theorem d_X12_laysRings_20 : decode cX12_laysRings 20 = .ok (.aload_n 0, 1) := by decide +kernel
theorem d_X12_laysRings_21 : decode cX12_laysRings 21 = .ok (.getfield 128, 3) := by decide +kernel
theorem d_X12_laysRings_24 : decode cX12_laysRings 24 = .ok (.iconst 5, 1) := by decide +kernel
theorem d_X12_laysRings_25 : decode cX12_laysRings 25 = .ok (.iload_n 1, 1) := by decide +kernel
theorem d_X12_laysRings_26 : decode cX12_laysRings 26 = .ok (.imul, 1) := by decide +kernel
theorem d_X12_laysRings_27 : decode cX12_laysRings 27 = .ok (.iload_n 2, 1) := by decide +kernel
theorem d_X12_laysRings_28 : decode cX12_laysRings 28 = .ok (.iadd, 1) := by decide +kernel
theorem d_X12_laysRings_29 : decode cX12_laysRings 29 = .ok (.aload_n 0, 1) := by decide +kernel
theorem d_X12_laysRings_30 : decode cX12_laysRings 30 = .ok (.iload_n 1, 1) := by decide +kernel
theorem d_X12_laysRings_31 : decode cX12_laysRings 31 = .ok (.invokevirtual 203, 3) := by decide +kernel
theorem d_X12_laysRings_34 : decode cX12_laysRings 34 = .ok (.iload_n 2, 1) := by decide +kernel
theorem d_X12_laysRings_35 : decode cX12_laysRings 35 = .ok (.if_icmp .eq 11, 3) := by decide +kernel
theorem d_X12_laysRings_38 : decode cX12_laysRings 38 = .ok (.aload_n 0, 1) := by decide +kernel
theorem d_X12_laysRings_39 : decode cX12_laysRings 39 = .ok (.iload_n 1, 1) := by decide +kernel
theorem d_X12_laysRings_40 : decode cX12_laysRings 40 = .ok (.invokevirtual 200, 3) := by decide +kernel
theorem d_X12_laysRings_43 : decode cX12_laysRings 43 = .ok (.ifCond .eq 7, 3) := by decide +kernel
theorem d_X12_laysRings_46 : decode cX12_laysRings 46 = .ok (.iconst 0, 1) := by decide +kernel
theorem d_X12_laysRings_47 : decode cX12_laysRings 47 = .ok (.goto 13, 3) := by decide +kernel
theorem d_X12_laysRings_50 : decode cX12_laysRings 50 = .ok (.aload_n 0, 1) := by decide +kernel
theorem d_X12_laysRings_51 : decode cX12_laysRings 51 = .ok (.iload_n 1, 1) := by decide +kernel
theorem d_X12_laysRings_52 : decode cX12_laysRings 52 = .ok (.aload_n 0, 1) := by decide +kernel
theorem d_X12_laysRings_53 : decode cX12_laysRings 53 = .ok (.iload_n 2, 1) := by decide +kernel
theorem d_X12_laysRings_54 : decode cX12_laysRings 54 = .ok (.invokevirtual 227, 3) := by decide +kernel
theorem d_X12_laysRings_57 : decode cX12_laysRings 57 = .ok (.invokevirtual 230, 3) := by decide +kernel
theorem d_X12_laysRings_60 : decode cX12_laysRings 60 = .ok (.iastore, 1) := by decide +kernel
theorem d_X12_laysRings_61 : decode cX12_laysRings 61 = .ok (.iinc 2 1, 3) := by decide +kernel
theorem d_X12_laysRings_64 : decode cX12_laysRings 64 = .ok (.goto (-52), 3) := by decide +kernel
theorem d_X12_laysRings_67 : decode cX12_laysRings 67 = .ok (.iinc 1 1, 3) := by decide +kernel
theorem d_X12_laysRings_70 : decode cX12_laysRings 70 = .ok (.goto (-68), 3) := by decide +kernel
theorem d_X12_laysRings_73 : decode cX12_laysRings 73 = .ok (.return_, 1) := by decide +kernel
theorem d_X12_freeForest_0 : decode cX12_freeForest 0 = .ok (.iconst 0, 1) := by decide +kernel
theorem d_X12_freeForest_1 : decode cX12_freeForest 1 = .ok (.istore_n 2, 1) := by decide +kernel
theorem d_X12_freeForest_2 : decode cX12_freeForest 2 = .ok (.iload_n 2, 1) := by decide +kernel
theorem d_X12_freeForest_3 : decode cX12_freeForest 3 = .ok (.aload_n 0, 1) := by decide +kernel
theorem d_X12_freeForest_4 : decode cX12_freeForest 4 = .ok (.invokevirtual 197, 3) := by decide +kernel
theorem d_X12_freeForest_7 : decode cX12_freeForest 7 = .ok (.if_icmp .ge 33, 3) := by decide +kernel
theorem d_X12_freeForest_10 : decode cX12_freeForest 10 = .ok (.aload_n 0, 1) := by decide +kernel
theorem d_X12_freeForest_11 : decode cX12_freeForest 11 = .ok (.iload_n 1, 1) := by decide +kernel
theorem d_X12_freeForest_12 : decode cX12_freeForest 12 = .ok (.invokevirtual 203, 3) := by decide +kernel
theorem d_X12_freeForest_15 : decode cX12_freeForest 15 = .ok (.iload_n 2, 1) := by decide +kernel
theorem d_X12_freeForest_16 : decode cX12_freeForest 16 = .ok (.if_icmp .eq 18, 3) := by decide +kernel
theorem d_X12_freeForest_19 : decode cX12_freeForest 19 = .ok (.aload_n 0, 1) := by decide +kernel
theorem d_X12_freeForest_20 : decode cX12_freeForest 20 = .ok (.getfield 128, 3) := by decide +kernel
theorem d_X12_freeForest_23 : decode cX12_freeForest 23 = .ok (.iconst 5, 1) := by decide +kernel
theorem d_X12_freeForest_24 : decode cX12_freeForest 24 = .ok (.iload_n 1, 1) := by decide +kernel
theorem d_X12_freeForest_25 : decode cX12_freeForest 25 = .ok (.imul, 1) := by decide +kernel
theorem d_X12_freeForest_26 : decode cX12_freeForest 26 = .ok (.iload_n 2, 1) := by decide +kernel
theorem d_X12_freeForest_27 : decode cX12_freeForest 27 = .ok (.iadd, 1) := by decide +kernel
theorem d_X12_freeForest_28 : decode cX12_freeForest 28 = .ok (.iaload, 1) := by decide +kernel
theorem d_X12_freeForest_29 : decode cX12_freeForest 29 = .ok (.ifCond .ne 5, 3) := by decide +kernel
theorem d_X12_freeForest_32 : decode cX12_freeForest 32 = .ok (.iload_n 2, 1) := by decide +kernel
theorem d_X12_freeForest_33 : decode cX12_freeForest 33 = .ok (.ireturn, 1) := by decide +kernel
theorem d_X12_freeForest_34 : decode cX12_freeForest 34 = .ok (.iinc 2 1, 3) := by decide +kernel
theorem d_X12_freeForest_37 : decode cX12_freeForest 37 = .ok (.goto (-35), 3) := by decide +kernel
theorem d_X12_freeForest_40 : decode cX12_freeForest 40 = .ok (.iconst (-1), 1) := by decide +kernel
theorem d_X12_freeForest_41 : decode cX12_freeForest 41 = .ok (.ireturn, 1) := by decide +kernel
theorem d_X12_nextTo_0 : decode cX12_nextTo 0 = .ok (.iconst 0, 1) := by decide +kernel
theorem d_X12_nextTo_1 : decode cX12_nextTo 1 = .ok (.istore_n 2, 1) := by decide +kernel
theorem d_X12_nextTo_2 : decode cX12_nextTo 2 = .ok (.iconst 0, 1) := by decide +kernel
theorem d_X12_nextTo_3 : decode cX12_nextTo 3 = .ok (.istore_n 3, 1) := by decide +kernel
theorem d_X12_nextTo_4 : decode cX12_nextTo 4 = .ok (.iload_n 3, 1) := by decide +kernel
theorem d_X12_nextTo_5 : decode cX12_nextTo 5 = .ok (.aload_n 0, 1) := by decide +kernel
theorem d_X12_nextTo_6 : decode cX12_nextTo 6 = .ok (.invokevirtual 197, 3) := by decide +kernel
theorem d_X12_nextTo_9 : decode cX12_nextTo 9 = .ok (.if_icmp .ge 22, 3) := by decide +kernel
theorem d_X12_nextTo_12 : decode cX12_nextTo 12 = .ok (.iload_n 2, 1) := by decide +kernel
theorem d_X12_nextTo_13 : decode cX12_nextTo 13 = .ok (.aload_n 0, 1) := by decide +kernel
theorem d_X12_nextTo_14 : decode cX12_nextTo 14 = .ok (.getfield 128, 3) := by decide +kernel
theorem d_X12_nextTo_17 : decode cX12_nextTo 17 = .ok (.iconst 5, 1) := by decide +kernel
theorem d_X12_nextTo_18 : decode cX12_nextTo 18 = .ok (.iload_n 1, 1) := by decide +kernel
theorem d_X12_nextTo_19 : decode cX12_nextTo 19 = .ok (.imul, 1) := by decide +kernel
theorem d_X12_nextTo_20 : decode cX12_nextTo 20 = .ok (.iload_n 3, 1) := by decide +kernel
theorem d_X12_nextTo_21 : decode cX12_nextTo 21 = .ok (.iadd, 1) := by decide +kernel
theorem d_X12_nextTo_22 : decode cX12_nextTo 22 = .ok (.iaload, 1) := by decide +kernel
theorem d_X12_nextTo_23 : decode cX12_nextTo 23 = .ok (.ior, 1) := by decide +kernel
theorem d_X12_nextTo_24 : decode cX12_nextTo 24 = .ok (.istore_n 2, 1) := by decide +kernel
theorem d_X12_nextTo_25 : decode cX12_nextTo 25 = .ok (.iinc 3 1, 3) := by decide +kernel
theorem d_X12_nextTo_28 : decode cX12_nextTo 28 = .ok (.goto (-24), 3) := by decide +kernel
theorem d_X12_nextTo_31 : decode cX12_nextTo 31 = .ok (.iload_n 2, 1) := by decide +kernel
theorem d_X12_nextTo_32 : decode cX12_nextTo 32 = .ok (.ireturn, 1) := by decide +kernel
theorem d_X12_laysCrowd_0 : decode cX12_laysCrowd 0 = .ok (.iconst 1, 1) := by decide +kernel
theorem d_X12_laysCrowd_1 : decode cX12_laysCrowd 1 = .ok (.iload_n 1, 1) := by decide +kernel
theorem d_X12_laysCrowd_2 : decode cX12_laysCrowd 2 = .ok (.ishl, 1) := by decide +kernel
theorem d_X12_laysCrowd_3 : decode cX12_laysCrowd 3 = .ok (.istore_n 2, 1) := by decide +kernel
theorem d_X12_laysCrowd_4 : decode cX12_laysCrowd 4 = .ok (.iconst 0, 1) := by decide +kernel
theorem d_X12_laysCrowd_5 : decode cX12_laysCrowd 5 = .ok (.istore_n 3, 1) := by decide +kernel
theorem d_X12_laysCrowd_6 : decode cX12_laysCrowd 6 = .ok (.iload_n 2, 1) := by decide +kernel
theorem d_X12_laysCrowd_7 : decode cX12_laysCrowd 7 = .ok (.iload_n 3, 1) := by decide +kernel
theorem d_X12_laysCrowd_8 : decode cX12_laysCrowd 8 = .ok (.if_icmp .eq 44, 3) := by decide +kernel
theorem d_X12_laysCrowd_11 : decode cX12_laysCrowd 11 = .ok (.iload_n 2, 1) := by decide +kernel
theorem d_X12_laysCrowd_12 : decode cX12_laysCrowd 12 = .ok (.istore_n 3, 1) := by decide +kernel
theorem d_X12_laysCrowd_13 : decode cX12_laysCrowd 13 = .ok (.iconst 0, 1) := by decide +kernel
theorem d_X12_laysCrowd_14 : decode cX12_laysCrowd 14 = .ok (.istore 4, 2) := by decide +kernel
theorem d_X12_laysCrowd_16 : decode cX12_laysCrowd 16 = .ok (.iload 4, 2) := by decide +kernel
theorem d_X12_laysCrowd_18 : decode cX12_laysCrowd 18 = .ok (.aload_n 0, 1) := by decide +kernel
theorem d_X12_laysCrowd_19 : decode cX12_laysCrowd 19 = .ok (.invokevirtual 194, 3) := by decide +kernel
theorem d_X12_laysCrowd_22 : decode cX12_laysCrowd 22 = .ok (.if_icmp .ge 27, 3) := by decide +kernel
theorem d_X12_laysCrowd_25 : decode cX12_laysCrowd 25 = .ok (.iload_n 3, 1) := by decide +kernel
theorem d_X12_laysCrowd_26 : decode cX12_laysCrowd 26 = .ok (.iload 4, 2) := by decide +kernel
theorem d_X12_laysCrowd_28 : decode cX12_laysCrowd 28 = .ok (.invokestatic 206, 3) := by decide +kernel
theorem d_X12_laysCrowd_31 : decode cX12_laysCrowd 31 = .ok (.ifCond .eq 12, 3) := by decide +kernel
theorem d_X12_laysCrowd_34 : decode cX12_laysCrowd 34 = .ok (.iload_n 2, 1) := by decide +kernel
theorem d_X12_laysCrowd_35 : decode cX12_laysCrowd 35 = .ok (.aload_n 0, 1) := by decide +kernel
theorem d_X12_laysCrowd_36 : decode cX12_laysCrowd 36 = .ok (.iload 4, 2) := by decide +kernel
theorem d_X12_laysCrowd_38 : decode cX12_laysCrowd 38 = .ok (.invokevirtual 251, 3) := by decide +kernel
theorem d_X12_laysCrowd_41 : decode cX12_laysCrowd 41 = .ok (.ior, 1) := by decide +kernel
theorem d_X12_laysCrowd_42 : decode cX12_laysCrowd 42 = .ok (.istore_n 2, 1) := by decide +kernel
theorem d_X12_laysCrowd_43 : decode cX12_laysCrowd 43 = .ok (.iinc 4 1, 3) := by decide +kernel
theorem d_X12_laysCrowd_46 : decode cX12_laysCrowd 46 = .ok (.goto (-30), 3) := by decide +kernel
theorem d_X12_laysCrowd_49 : decode cX12_laysCrowd 49 = .ok (.goto (-43), 3) := by decide +kernel
theorem d_X12_laysCrowd_52 : decode cX12_laysCrowd 52 = .ok (.aload_n 0, 1) := by decide +kernel
theorem d_X12_laysCrowd_53 : decode cX12_laysCrowd 53 = .ok (.iconst 0, 1) := by decide +kernel
theorem d_X12_laysCrowd_54 : decode cX12_laysCrowd 54 = .ok (.putfield 260, 3) := by decide +kernel
theorem d_X12_laysCrowd_57 : decode cX12_laysCrowd 57 = .ok (.iconst 0, 1) := by decide +kernel
theorem d_X12_laysCrowd_58 : decode cX12_laysCrowd 58 = .ok (.istore 4, 2) := by decide +kernel
theorem d_X12_laysCrowd_60 : decode cX12_laysCrowd 60 = .ok (.iload 4, 2) := by decide +kernel
theorem d_X12_laysCrowd_62 : decode cX12_laysCrowd 62 = .ok (.aload_n 0, 1) := by decide +kernel
theorem d_X12_laysCrowd_63 : decode cX12_laysCrowd 63 = .ok (.invokevirtual 194, 3) := by decide +kernel
theorem d_X12_laysCrowd_66 : decode cX12_laysCrowd 66 = .ok (.if_icmp .ge 33, 3) := by decide +kernel
theorem d_X12_laysCrowd_69 : decode cX12_laysCrowd 69 = .ok (.iload_n 2, 1) := by decide +kernel
theorem d_X12_laysCrowd_70 : decode cX12_laysCrowd 70 = .ok (.iload 4, 2) := by decide +kernel
theorem d_X12_laysCrowd_72 : decode cX12_laysCrowd 72 = .ok (.invokestatic 206, 3) := by decide +kernel
theorem d_X12_laysCrowd_75 : decode cX12_laysCrowd 75 = .ok (.ifCond .eq 18, 3) := by decide +kernel
theorem d_X12_laysCrowd_78 : decode cX12_laysCrowd 78 = .ok (.aload_n 0, 1) := by decide +kernel
theorem d_X12_laysCrowd_79 : decode cX12_laysCrowd 79 = .ok (.dup, 1) := by decide +kernel
theorem d_X12_laysCrowd_80 : decode cX12_laysCrowd 80 = .ok (.getfield 260, 3) := by decide +kernel
theorem d_X12_laysCrowd_83 : decode cX12_laysCrowd 83 = .ok (.aload_n 0, 1) := by decide +kernel
theorem d_X12_laysCrowd_84 : decode cX12_laysCrowd 84 = .ok (.iload 4, 2) := by decide +kernel
theorem d_X12_laysCrowd_86 : decode cX12_laysCrowd 86 = .ok (.invokevirtual 209, 3) := by decide +kernel
theorem d_X12_laysCrowd_89 : decode cX12_laysCrowd 89 = .ok (.ior, 1) := by decide +kernel
theorem d_X12_laysCrowd_90 : decode cX12_laysCrowd 90 = .ok (.putfield 260, 3) := by decide +kernel
theorem d_X12_laysCrowd_93 : decode cX12_laysCrowd 93 = .ok (.iinc 4 1, 3) := by decide +kernel
theorem d_X12_laysCrowd_96 : decode cX12_laysCrowd 96 = .ok (.goto (-36), 3) := by decide +kernel
theorem d_X12_laysCrowd_99 : decode cX12_laysCrowd 99 = .ok (.iconst 0, 1) := by decide +kernel
theorem d_X12_laysCrowd_100 : decode cX12_laysCrowd 100 = .ok (.ireturn, 1) := by decide +kernel
theorem d_X12_laysChain_0 : decode cX12_laysChain 0 = .ok (.aload_n 0, 1) := by decide +kernel
theorem d_X12_laysChain_1 : decode cX12_laysChain 1 = .ok (.invokevirtual 245, 3) := by decide +kernel
theorem d_X12_laysChain_4 : decode cX12_laysChain 4 = .ok (.iconst 0, 1) := by decide +kernel
theorem d_X12_laysChain_5 : decode cX12_laysChain 5 = .ok (.istore_n 2, 1) := by decide +kernel
theorem d_X12_laysChain_6 : decode cX12_laysChain 6 = .ok (.iload_n 2, 1) := by decide +kernel
theorem d_X12_laysChain_7 : decode cX12_laysChain 7 = .ok (.aload_n 0, 1) := by decide +kernel
theorem d_X12_laysChain_8 : decode cX12_laysChain 8 = .ok (.invokevirtual 194, 3) := by decide +kernel
theorem d_X12_laysChain_11 : decode cX12_laysChain 11 = .ok (.if_icmp .ge 39, 3) := by decide +kernel
theorem d_X12_laysChain_14 : decode cX12_laysChain 14 = .ok (.aload_n 0, 1) := by decide +kernel
theorem d_X12_laysChain_15 : decode cX12_laysChain 15 = .ok (.getfield 125, 3) := by decide +kernel
theorem d_X12_laysChain_18 : decode cX12_laysChain 18 = .ok (.iload_n 2, 1) := by decide +kernel
theorem d_X12_laysChain_19 : decode cX12_laysChain 19 = .ok (.aload_n 0, 1) := by decide +kernel
theorem d_X12_laysChain_20 : decode cX12_laysChain 20 = .ok (.iload_n 2, 1) := by decide +kernel
theorem d_X12_laysChain_21 : decode cX12_laysChain 21 = .ok (.invokevirtual 200, 3) := by decide +kernel
theorem d_X12_laysChain_24 : decode cX12_laysChain 24 = .ok (.ifCond .ne 16, 3) := by decide +kernel
theorem d_X12_laysChain_27 : decode cX12_laysChain 27 = .ok (.aload_n 0, 1) := by decide +kernel
theorem d_X12_laysChain_28 : decode cX12_laysChain 28 = .ok (.iload_n 2, 1) := by decide +kernel
theorem d_X12_laysChain_29 : decode cX12_laysChain 29 = .ok (.invokevirtual 248, 3) := by decide +kernel
theorem d_X12_laysChain_32 : decode cX12_laysChain 32 = .ok (.iconst (-1), 1) := by decide +kernel
theorem d_X12_laysChain_33 : decode cX12_laysChain 33 = .ok (.if_icmp .eq 7, 3) := by decide +kernel
theorem d_X12_laysChain_36 : decode cX12_laysChain 36 = .ok (.iconst 1, 1) := by decide +kernel
theorem d_X12_laysChain_37 : decode cX12_laysChain 37 = .ok (.goto 6, 3) := by decide +kernel
theorem d_X12_laysChain_40 : decode cX12_laysChain 40 = .ok (.sipush 1000, 3) := by decide +kernel
theorem d_X12_laysChain_43 : decode cX12_laysChain 43 = .ok (.iastore, 1) := by decide +kernel
theorem d_X12_laysChain_44 : decode cX12_laysChain 44 = .ok (.iinc 2 1, 3) := by decide +kernel
theorem d_X12_laysChain_47 : decode cX12_laysChain 47 = .ok (.goto (-41), 3) := by decide +kernel
theorem d_X12_laysChain_50 : decode cX12_laysChain 50 = .ok (.iconst 0, 1) := by decide +kernel
theorem d_X12_laysChain_51 : decode cX12_laysChain 51 = .ok (.istore_n 2, 1) := by decide +kernel
theorem d_X12_laysChain_52 : decode cX12_laysChain 52 = .ok (.iload_n 2, 1) := by decide +kernel
theorem d_X12_laysChain_53 : decode cX12_laysChain 53 = .ok (.aload_n 0, 1) := by decide +kernel
theorem d_X12_laysChain_54 : decode cX12_laysChain 54 = .ok (.invokevirtual 194, 3) := by decide +kernel
theorem d_X12_laysChain_57 : decode cX12_laysChain 57 = .ok (.if_icmp .ge 97, 3) := by decide +kernel
theorem d_X12_laysChain_60 : decode cX12_laysChain 60 = .ok (.iconst 0, 1) := by decide +kernel
theorem d_X12_laysChain_61 : decode cX12_laysChain 61 = .ok (.istore_n 3, 1) := by decide +kernel
theorem d_X12_laysChain_62 : decode cX12_laysChain 62 = .ok (.iload_n 3, 1) := by decide +kernel
theorem d_X12_laysChain_63 : decode cX12_laysChain 63 = .ok (.aload_n 0, 1) := by decide +kernel
theorem d_X12_laysChain_64 : decode cX12_laysChain 64 = .ok (.invokevirtual 194, 3) := by decide +kernel
theorem d_X12_laysChain_67 : decode cX12_laysChain 67 = .ok (.if_icmp .ge 81, 3) := by decide +kernel
theorem d_X12_laysChain_70 : decode cX12_laysChain 70 = .ok (.iconst 0, 1) := by decide +kernel
theorem d_X12_laysChain_71 : decode cX12_laysChain 71 = .ok (.istore 4, 2) := by decide +kernel
theorem d_X12_laysChain_73 : decode cX12_laysChain 73 = .ok (.iload 4, 2) := by decide +kernel
theorem d_X12_laysChain_75 : decode cX12_laysChain 75 = .ok (.aload_n 0, 1) := by decide +kernel
theorem d_X12_laysChain_76 : decode cX12_laysChain 76 = .ok (.invokevirtual 194, 3) := by decide +kernel
theorem d_X12_laysChain_79 : decode cX12_laysChain 79 = .ok (.if_icmp .ge 63, 3) := by decide +kernel
theorem d_X12_laysChain_82 : decode cX12_laysChain 82 = .ok (.aload_n 0, 1) := by decide +kernel
theorem d_X12_laysChain_83 : decode cX12_laysChain 83 = .ok (.iload_n 3, 1) := by decide +kernel
theorem d_X12_laysChain_84 : decode cX12_laysChain 84 = .ok (.invokevirtual 200, 3) := by decide +kernel
theorem d_X12_laysChain_87 : decode cX12_laysChain 87 = .ok (.ifCond .ne 49, 3) := by decide +kernel
theorem d_X12_laysChain_90 : decode cX12_laysChain 90 = .ok (.aload_n 0, 1) := by decide +kernel
theorem d_X12_laysChain_91 : decode cX12_laysChain 91 = .ok (.iload_n 3, 1) := by decide +kernel
theorem d_X12_laysChain_92 : decode cX12_laysChain 92 = .ok (.invokevirtual 251, 3) := by decide +kernel
theorem d_X12_laysChain_95 : decode cX12_laysChain 95 = .ok (.iload 4, 2) := by decide +kernel
theorem d_X12_laysChain_97 : decode cX12_laysChain 97 = .ok (.invokestatic 206, 3) := by decide +kernel
theorem d_X12_laysChain_100 : decode cX12_laysChain 100 = .ok (.ifCond .eq 36, 3) := by decide +kernel
theorem d_X12_laysChain_103 : decode cX12_laysChain 103 = .ok (.aload_n 0, 1) := by decide +kernel
theorem d_X12_laysChain_104 : decode cX12_laysChain 104 = .ok (.getfield 125, 3) := by decide +kernel
theorem d_X12_laysChain_107 : decode cX12_laysChain 107 = .ok (.iload 4, 2) := by decide +kernel
theorem d_X12_laysChain_109 : decode cX12_laysChain 109 = .ok (.iaload, 1) := by decide +kernel
theorem d_X12_laysChain_110 : decode cX12_laysChain 110 = .ok (.iconst 1, 1) := by decide +kernel
theorem d_X12_laysChain_111 : decode cX12_laysChain 111 = .ok (.iadd, 1) := by decide +kernel
theorem d_X12_laysChain_112 : decode cX12_laysChain 112 = .ok (.aload_n 0, 1) := by decide +kernel
theorem d_X12_laysChain_113 : decode cX12_laysChain 113 = .ok (.getfield 125, 3) := by decide +kernel
theorem d_X12_laysChain_116 : decode cX12_laysChain 116 = .ok (.iload_n 3, 1) := by decide +kernel
theorem d_X12_laysChain_117 : decode cX12_laysChain 117 = .ok (.iaload, 1) := by decide +kernel
theorem d_X12_laysChain_118 : decode cX12_laysChain 118 = .ok (.if_icmp .ge 18, 3) := by decide +kernel
theorem d_X12_laysChain_121 : decode cX12_laysChain 121 = .ok (.aload_n 0, 1) := by decide +kernel
theorem d_X12_laysChain_122 : decode cX12_laysChain 122 = .ok (.getfield 125, 3) := by decide +kernel
theorem d_X12_laysChain_125 : decode cX12_laysChain 125 = .ok (.iload_n 3, 1) := by decide +kernel
theorem d_X12_laysChain_126 : decode cX12_laysChain 126 = .ok (.aload_n 0, 1) := by decide +kernel
theorem d_X12_laysChain_127 : decode cX12_laysChain 127 = .ok (.getfield 125, 3) := by decide +kernel
theorem d_X12_laysChain_130 : decode cX12_laysChain 130 = .ok (.iload 4, 2) := by decide +kernel
theorem d_X12_laysChain_132 : decode cX12_laysChain 132 = .ok (.iaload, 1) := by decide +kernel
theorem d_X12_laysChain_133 : decode cX12_laysChain 133 = .ok (.iconst 1, 1) := by decide +kernel
theorem d_X12_laysChain_134 : decode cX12_laysChain 134 = .ok (.iadd, 1) := by decide +kernel
theorem d_X12_laysChain_135 : decode cX12_laysChain 135 = .ok (.iastore, 1) := by decide +kernel
theorem d_X12_laysChain_136 : decode cX12_laysChain 136 = .ok (.iinc 4 1, 3) := by decide +kernel
theorem d_X12_laysChain_139 : decode cX12_laysChain 139 = .ok (.goto (-66), 3) := by decide +kernel
theorem d_X12_laysChain_142 : decode cX12_laysChain 142 = .ok (.iinc 3 1, 3) := by decide +kernel
theorem d_X12_laysChain_145 : decode cX12_laysChain 145 = .ok (.goto (-83), 3) := by decide +kernel
theorem d_X12_laysChain_148 : decode cX12_laysChain 148 = .ok (.iinc 2 1, 3) := by decide +kernel
theorem d_X12_laysChain_151 : decode cX12_laysChain 151 = .ok (.goto (-99), 3) := by decide +kernel
theorem d_X12_laysChain_154 : decode cX12_laysChain 154 = .ok (.aload_n 0, 1) := by decide +kernel
theorem d_X12_laysChain_155 : decode cX12_laysChain 155 = .ok (.getfield 125, 3) := by decide +kernel
theorem d_X12_laysChain_158 : decode cX12_laysChain 158 = .ok (.iload_n 1, 1) := by decide +kernel
theorem d_X12_laysChain_159 : decode cX12_laysChain 159 = .ok (.iaload, 1) := by decide +kernel
theorem d_X12_laysChain_160 : decode cX12_laysChain 160 = .ok (.sipush 1000, 3) := by decide +kernel
theorem d_X12_laysChain_163 : decode cX12_laysChain 163 = .ok (.if_icmp .ne 9, 3) := by decide +kernel
theorem d_X12_laysChain_166 : decode cX12_laysChain 166 = .ok (.aload_n 0, 1) := by decide +kernel
theorem d_X12_laysChain_167 : decode cX12_laysChain 167 = .ok (.iload_n 1, 1) := by decide +kernel
theorem d_X12_laysChain_168 : decode cX12_laysChain 168 = .ok (.invokevirtual 254, 3) := by decide +kernel
theorem d_X12_laysChain_171 : decode cX12_laysChain 171 = .ok (.ireturn, 1) := by decide +kernel
theorem d_X12_laysChain_172 : decode cX12_laysChain 172 = .ok (.aload_n 0, 1) := by decide +kernel
theorem d_X12_laysChain_173 : decode cX12_laysChain 173 = .ok (.iconst 0, 1) := by decide +kernel
theorem d_X12_laysChain_174 : decode cX12_laysChain 174 = .ok (.putfield 257, 3) := by decide +kernel
theorem d_X12_laysChain_177 : decode cX12_laysChain 177 = .ok (.iload_n 1, 1) := by decide +kernel
theorem d_X12_laysChain_178 : decode cX12_laysChain 178 = .ok (.istore_n 2, 1) := by decide +kernel
theorem d_X12_laysChain_179 : decode cX12_laysChain 179 = .ok (.aload_n 0, 1) := by decide +kernel
theorem d_X12_laysChain_180 : decode cX12_laysChain 180 = .ok (.getfield 125, 3) := by decide +kernel
theorem d_X12_laysChain_183 : decode cX12_laysChain 183 = .ok (.iload_n 2, 1) := by decide +kernel
theorem d_X12_laysChain_184 : decode cX12_laysChain 184 = .ok (.iaload, 1) := by decide +kernel
theorem d_X12_laysChain_185 : decode cX12_laysChain 185 = .ok (.iconst 1, 1) := by decide +kernel
theorem d_X12_laysChain_186 : decode cX12_laysChain 186 = .ok (.if_icmp .le 79, 3) := by decide +kernel
theorem d_X12_laysChain_189 : decode cX12_laysChain 189 = .ok (.iconst 0, 1) := by decide +kernel
theorem d_X12_laysChain_190 : decode cX12_laysChain 190 = .ok (.istore_n 3, 1) := by decide +kernel
theorem d_X12_laysChain_191 : decode cX12_laysChain 191 = .ok (.aload_n 0, 1) := by decide +kernel
theorem d_X12_laysChain_192 : decode cX12_laysChain 192 = .ok (.iload_n 2, 1) := by decide +kernel
theorem d_X12_laysChain_193 : decode cX12_laysChain 193 = .ok (.invokevirtual 251, 3) := by decide +kernel
theorem d_X12_laysChain_196 : decode cX12_laysChain 196 = .ok (.iload_n 3, 1) := by decide +kernel
theorem d_X12_laysChain_197 : decode cX12_laysChain 197 = .ok (.invokestatic 206, 3) := by decide +kernel
theorem d_X12_laysChain_200 : decode cX12_laysChain 200 = .ok (.ifCond .eq 20, 3) := by decide +kernel
theorem d_X12_laysChain_203 : decode cX12_laysChain 203 = .ok (.aload_n 0, 1) := by decide +kernel
theorem d_X12_laysChain_204 : decode cX12_laysChain 204 = .ok (.getfield 125, 3) := by decide +kernel
theorem d_X12_laysChain_207 : decode cX12_laysChain 207 = .ok (.iload_n 3, 1) := by decide +kernel
theorem d_X12_laysChain_208 : decode cX12_laysChain 208 = .ok (.iaload, 1) := by decide +kernel
theorem d_X12_laysChain_209 : decode cX12_laysChain 209 = .ok (.iconst 1, 1) := by decide +kernel
theorem d_X12_laysChain_210 : decode cX12_laysChain 210 = .ok (.iadd, 1) := by decide +kernel
theorem d_X12_laysChain_211 : decode cX12_laysChain 211 = .ok (.aload_n 0, 1) := by decide +kernel
theorem d_X12_laysChain_212 : decode cX12_laysChain 212 = .ok (.getfield 125, 3) := by decide +kernel
theorem d_X12_laysChain_215 : decode cX12_laysChain 215 = .ok (.iload_n 2, 1) := by decide +kernel
theorem d_X12_laysChain_216 : decode cX12_laysChain 216 = .ok (.iaload, 1) := by decide +kernel
theorem d_X12_laysChain_217 : decode cX12_laysChain 217 = .ok (.if_icmp .eq 9, 3) := by decide +kernel
theorem d_X12_laysChain_220 : decode cX12_laysChain 220 = .ok (.iinc 3 1, 3) := by decide +kernel
theorem d_X12_laysChain_223 : decode cX12_laysChain 223 = .ok (.goto (-32), 3) := by decide +kernel
theorem d_X12_laysChain_226 : decode cX12_laysChain 226 = .ok (.aload_n 0, 1) := by decide +kernel
theorem d_X12_laysChain_227 : decode cX12_laysChain 227 = .ok (.getfield 131, 3) := by decide +kernel
theorem d_X12_laysChain_230 : decode cX12_laysChain 230 = .ok (.aload_n 0, 1) := by decide +kernel
theorem d_X12_laysChain_231 : decode cX12_laysChain 231 = .ok (.getfield 257, 3) := by decide +kernel
theorem d_X12_laysChain_234 : decode cX12_laysChain 234 = .ok (.iload_n 2, 1) := by decide +kernel
theorem d_X12_laysChain_235 : decode cX12_laysChain 235 = .ok (.iastore, 1) := by decide +kernel
theorem d_X12_laysChain_236 : decode cX12_laysChain 236 = .ok (.aload_n 0, 1) := by decide +kernel
theorem d_X12_laysChain_237 : decode cX12_laysChain 237 = .ok (.getfield 134, 3) := by decide +kernel
theorem d_X12_laysChain_240 : decode cX12_laysChain 240 = .ok (.aload_n 0, 1) := by decide +kernel
theorem d_X12_laysChain_241 : decode cX12_laysChain 241 = .ok (.getfield 257, 3) := by decide +kernel
theorem d_X12_laysChain_244 : decode cX12_laysChain 244 = .ok (.aload_n 0, 1) := by decide +kernel
theorem d_X12_laysChain_245 : decode cX12_laysChain 245 = .ok (.iload_n 3, 1) := by decide +kernel
theorem d_X12_laysChain_246 : decode cX12_laysChain 246 = .ok (.invokevirtual 203, 3) := by decide +kernel
theorem d_X12_laysChain_249 : decode cX12_laysChain 249 = .ok (.iastore, 1) := by decide +kernel
theorem d_X12_laysChain_250 : decode cX12_laysChain 250 = .ok (.aload_n 0, 1) := by decide +kernel
theorem d_X12_laysChain_251 : decode cX12_laysChain 251 = .ok (.dup, 1) := by decide +kernel
theorem d_X12_laysChain_252 : decode cX12_laysChain 252 = .ok (.getfield 257, 3) := by decide +kernel
theorem d_X12_laysChain_255 : decode cX12_laysChain 255 = .ok (.iconst 1, 1) := by decide +kernel
theorem d_X12_laysChain_256 : decode cX12_laysChain 256 = .ok (.iadd, 1) := by decide +kernel
theorem d_X12_laysChain_257 : decode cX12_laysChain 257 = .ok (.putfield 257, 3) := by decide +kernel
theorem d_X12_laysChain_260 : decode cX12_laysChain 260 = .ok (.iload_n 3, 1) := by decide +kernel
theorem d_X12_laysChain_261 : decode cX12_laysChain 261 = .ok (.istore_n 2, 1) := by decide +kernel
theorem d_X12_laysChain_262 : decode cX12_laysChain 262 = .ok (.goto (-83), 3) := by decide +kernel
theorem d_X12_laysChain_265 : decode cX12_laysChain 265 = .ok (.aload_n 0, 1) := by decide +kernel
theorem d_X12_laysChain_266 : decode cX12_laysChain 266 = .ok (.getfield 131, 3) := by decide +kernel
theorem d_X12_laysChain_269 : decode cX12_laysChain 269 = .ok (.aload_n 0, 1) := by decide +kernel
theorem d_X12_laysChain_270 : decode cX12_laysChain 270 = .ok (.getfield 257, 3) := by decide +kernel
theorem d_X12_laysChain_273 : decode cX12_laysChain 273 = .ok (.iload_n 2, 1) := by decide +kernel
theorem d_X12_laysChain_274 : decode cX12_laysChain 274 = .ok (.iastore, 1) := by decide +kernel
theorem d_X12_laysChain_275 : decode cX12_laysChain 275 = .ok (.aload_n 0, 1) := by decide +kernel
theorem d_X12_laysChain_276 : decode cX12_laysChain 276 = .ok (.getfield 134, 3) := by decide +kernel
theorem d_X12_laysChain_279 : decode cX12_laysChain 279 = .ok (.aload_n 0, 1) := by decide +kernel
theorem d_X12_laysChain_280 : decode cX12_laysChain 280 = .ok (.getfield 257, 3) := by decide +kernel
theorem d_X12_laysChain_283 : decode cX12_laysChain 283 = .ok (.aload_n 0, 1) := by decide +kernel
theorem d_X12_laysChain_284 : decode cX12_laysChain 284 = .ok (.iload_n 2, 1) := by decide +kernel
theorem d_X12_laysChain_285 : decode cX12_laysChain 285 = .ok (.invokevirtual 248, 3) := by decide +kernel
theorem d_X12_laysChain_288 : decode cX12_laysChain 288 = .ok (.iastore, 1) := by decide +kernel
theorem d_X12_laysChain_289 : decode cX12_laysChain 289 = .ok (.aload_n 0, 1) := by decide +kernel
theorem d_X12_laysChain_290 : decode cX12_laysChain 290 = .ok (.dup, 1) := by decide +kernel
theorem d_X12_laysChain_291 : decode cX12_laysChain 291 = .ok (.getfield 257, 3) := by decide +kernel
theorem d_X12_laysChain_294 : decode cX12_laysChain 294 = .ok (.iconst 1, 1) := by decide +kernel
theorem d_X12_laysChain_295 : decode cX12_laysChain 295 = .ok (.iadd, 1) := by decide +kernel
theorem d_X12_laysChain_296 : decode cX12_laysChain 296 = .ok (.putfield 257, 3) := by decide +kernel
theorem d_X12_laysChain_299 : decode cX12_laysChain 299 = .ok (.aload_n 0, 1) := by decide +kernel
theorem d_X12_laysChain_300 : decode cX12_laysChain 300 = .ok (.getfield 257, 3) := by decide +kernel
theorem d_X12_laysChain_303 : decode cX12_laysChain 303 = .ok (.ireturn, 1) := by decide +kernel
theorem d_X12_tells_0 : decode cX12_tells 0 = .ok (.aload_n 0, 1) := by decide +kernel
theorem d_X12_tells_1 : decode cX12_tells 1 = .ok (.iload_n 1, 1) := by decide +kernel
theorem d_X12_tells_2 : decode cX12_tells 2 = .ok (.invokevirtual 263, 3) := by decide +kernel
theorem d_X12_tells_5 : decode cX12_tells 5 = .ok (.istore_n 2, 1) := by decide +kernel
theorem d_X12_tells_6 : decode cX12_tells 6 = .ok (.iload_n 2, 1) := by decide +kernel
theorem d_X12_tells_7 : decode cX12_tells 7 = .ok (.ifCond .ne 11, 3) := by decide +kernel
theorem d_X12_tells_10 : decode cX12_tells 10 = .ok (.aload_n 0, 1) := by decide +kernel
theorem d_X12_tells_11 : decode cX12_tells 11 = .ok (.aload_n 0, 1) := by decide +kernel
theorem d_X12_tells_12 : decode cX12_tells 12 = .ok (.getfield 260, 3) := by decide +kernel
theorem d_X12_tells_15 : decode cX12_tells 15 = .ok (.putfield 266, 3) := by decide +kernel
theorem d_X12_tells_18 : decode cX12_tells 18 = .ok (.iload_n 2, 1) := by decide +kernel
theorem d_X12_tells_19 : decode cX12_tells 19 = .ok (.ifCond .le 8, 3) := by decide +kernel
theorem d_X12_tells_22 : decode cX12_tells 22 = .ok (.aload_n 0, 1) := by decide +kernel
theorem d_X12_tells_23 : decode cX12_tells 23 = .ok (.iload_n 2, 1) := by decide +kernel
theorem d_X12_tells_24 : decode cX12_tells 24 = .ok (.putfield 269, 3) := by decide +kernel
theorem d_X12_tells_27 : decode cX12_tells 27 = .ok (.iconst 0, 1) := by decide +kernel
theorem d_X12_tells_28 : decode cX12_tells 28 = .ok (.istore_n 3, 1) := by decide +kernel
theorem d_X12_tells_29 : decode cX12_tells 29 = .ok (.iload_n 3, 1) := by decide +kernel
theorem d_X12_tells_30 : decode cX12_tells 30 = .ok (.iload_n 2, 1) := by decide +kernel
theorem d_X12_tells_31 : decode cX12_tells 31 = .ok (.if_icmp .ge 39, 3) := by decide +kernel
theorem d_X12_tells_34 : decode cX12_tells 34 = .ok (.aload_n 0, 1) := by decide +kernel
theorem d_X12_tells_35 : decode cX12_tells 35 = .ok (.getfield 137, 3) := by decide +kernel
theorem d_X12_tells_38 : decode cX12_tells 38 = .ok (.iconst 2, 1) := by decide +kernel
theorem d_X12_tells_39 : decode cX12_tells 39 = .ok (.iload_n 3, 1) := by decide +kernel
theorem d_X12_tells_40 : decode cX12_tells 40 = .ok (.imul, 1) := by decide +kernel
theorem d_X12_tells_41 : decode cX12_tells 41 = .ok (.aload_n 0, 1) := by decide +kernel
theorem d_X12_tells_42 : decode cX12_tells 42 = .ok (.getfield 131, 3) := by decide +kernel
theorem d_X12_tells_45 : decode cX12_tells 45 = .ok (.iload_n 3, 1) := by decide +kernel
theorem d_X12_tells_46 : decode cX12_tells 46 = .ok (.iaload, 1) := by decide +kernel
theorem d_X12_tells_47 : decode cX12_tells 47 = .ok (.iastore, 1) := by decide +kernel
theorem d_X12_tells_48 : decode cX12_tells 48 = .ok (.aload_n 0, 1) := by decide +kernel
theorem d_X12_tells_49 : decode cX12_tells 49 = .ok (.getfield 137, 3) := by decide +kernel
theorem d_X12_tells_52 : decode cX12_tells 52 = .ok (.iconst 2, 1) := by decide +kernel
theorem d_X12_tells_53 : decode cX12_tells 53 = .ok (.iload_n 3, 1) := by decide +kernel
theorem d_X12_tells_54 : decode cX12_tells 54 = .ok (.imul, 1) := by decide +kernel
theorem d_X12_tells_55 : decode cX12_tells 55 = .ok (.iconst 1, 1) := by decide +kernel
theorem d_X12_tells_56 : decode cX12_tells 56 = .ok (.iadd, 1) := by decide +kernel
theorem d_X12_tells_57 : decode cX12_tells 57 = .ok (.aload_n 0, 1) := by decide +kernel
theorem d_X12_tells_58 : decode cX12_tells 58 = .ok (.getfield 134, 3) := by decide +kernel
theorem d_X12_tells_61 : decode cX12_tells 61 = .ok (.iload_n 3, 1) := by decide +kernel
theorem d_X12_tells_62 : decode cX12_tells 62 = .ok (.iaload, 1) := by decide +kernel
theorem d_X12_tells_63 : decode cX12_tells 63 = .ok (.iastore, 1) := by decide +kernel
theorem d_X12_tells_64 : decode cX12_tells 64 = .ok (.iinc 3 1, 3) := by decide +kernel
theorem d_X12_tells_67 : decode cX12_tells 67 = .ok (.goto (-38), 3) := by decide +kernel
theorem d_X12_tells_70 : decode cX12_tells 70 = .ok (.iload_n 2, 1) := by decide +kernel
theorem d_X12_tells_71 : decode cX12_tells 71 = .ok (.ireturn, 1) := by decide +kernel
theorem d_X12_exchange_0 : decode cX12_exchange 0 = .ok (.iconst 0, 1) := by decide +kernel
theorem d_X12_exchange_1 : decode cX12_exchange 1 = .ok (.istore_n 1, 1) := by decide +kernel
theorem d_X12_exchange_2 : decode cX12_exchange 2 = .ok (.iload_n 1, 1) := by decide +kernel
theorem d_X12_exchange_3 : decode cX12_exchange 3 = .ok (.aload_n 0, 1) := by decide +kernel
theorem d_X12_exchange_4 : decode cX12_exchange 4 = .ok (.getfield 257, 3) := by decide +kernel
theorem d_X12_exchange_7 : decode cX12_exchange 7 = .ok (.if_icmp .ge 29, 3) := by decide +kernel
theorem d_X12_exchange_10 : decode cX12_exchange 10 = .ok (.aload_n 0, 1) := by decide +kernel
theorem d_X12_exchange_11 : decode cX12_exchange 11 = .ok (.getfield 99, 3) := by decide +kernel
theorem d_X12_exchange_14 : decode cX12_exchange 14 = .ok (.bipush 75, 2) := by decide +kernel
theorem d_X12_exchange_16 : decode cX12_exchange 16 = .ok (.aload_n 0, 1) := by decide +kernel
theorem d_X12_exchange_17 : decode cX12_exchange 17 = .ok (.getfield 131, 3) := by decide +kernel
theorem d_X12_exchange_20 : decode cX12_exchange 20 = .ok (.iload_n 1, 1) := by decide +kernel
theorem d_X12_exchange_21 : decode cX12_exchange 21 = .ok (.iaload, 1) := by decide +kernel
theorem d_X12_exchange_22 : decode cX12_exchange 22 = .ok (.iadd, 1) := by decide +kernel
theorem d_X12_exchange_23 : decode cX12_exchange 23 = .ok (.aload_n 0, 1) := by decide +kernel
theorem d_X12_exchange_24 : decode cX12_exchange 24 = .ok (.getfield 134, 3) := by decide +kernel
theorem d_X12_exchange_27 : decode cX12_exchange 27 = .ok (.iload_n 1, 1) := by decide +kernel
theorem d_X12_exchange_28 : decode cX12_exchange 28 = .ok (.iaload, 1) := by decide +kernel
theorem d_X12_exchange_29 : decode cX12_exchange 29 = .ok (.iastore, 1) := by decide +kernel
theorem d_X12_exchange_30 : decode cX12_exchange 30 = .ok (.iinc 1 1, 3) := by decide +kernel
theorem d_X12_exchange_33 : decode cX12_exchange 33 = .ok (.goto (-31), 3) := by decide +kernel
theorem d_X12_exchange_36 : decode cX12_exchange 36 = .ok (.return_, 1) := by decide +kernel
theorem d_X12_place_0 : decode cX12_place 0 = .ok (.aload_n 0, 1) := by decide +kernel
theorem d_X12_place_1 : decode cX12_place 1 = .ok (.iconst 0, 1) := by decide +kernel
theorem d_X12_place_2 : decode cX12_place 2 = .ok (.putfield 1, 3) := by decide +kernel
theorem d_X12_place_5 : decode cX12_place 5 = .ok (.aload_n 0, 1) := by decide +kernel
theorem d_X12_place_6 : decode cX12_place 6 = .ok (.iload_n 1, 1) := by decide +kernel
theorem d_X12_place_7 : decode cX12_place 7 = .ok (.invokevirtual 218, 3) := by decide +kernel
theorem d_X12_place_10 : decode cX12_place 10 = .ok (.ifCond .eq 11, 3) := by decide +kernel
theorem d_X12_place_13 : decode cX12_place 13 = .ok (.aload_n 0, 1) := by decide +kernel
theorem d_X12_place_14 : decode cX12_place 14 = .ok (.iload_n 1, 1) := by decide +kernel
theorem d_X12_place_15 : decode cX12_place 15 = .ok (.invokevirtual 272, 3) := by decide +kernel
theorem d_X12_place_18 : decode cX12_place 18 = .ok (.ifCond .ne 5, 3) := by decide +kernel
theorem d_X12_place_21 : decode cX12_place 21 = .ok (.iconst (-1), 1) := by decide +kernel
theorem d_X12_place_22 : decode cX12_place 22 = .ok (.ireturn, 1) := by decide +kernel
theorem d_X12_place_23 : decode cX12_place 23 = .ok (.aload_n 0, 1) := by decide +kernel
theorem d_X12_place_24 : decode cX12_place 24 = .ok (.iload_n 1, 1) := by decide +kernel
theorem d_X12_place_25 : decode cX12_place 25 = .ok (.invokevirtual 275, 3) := by decide +kernel
theorem d_X12_place_28 : decode cX12_place 28 = .ok (.istore_n 2, 1) := by decide +kernel
theorem d_X12_place_29 : decode cX12_place 29 = .ok (.iload_n 2, 1) := by decide +kernel
theorem d_X12_place_30 : decode cX12_place 30 = .ok (.ifCond .ne 5, 3) := by decide +kernel
theorem d_X12_place_33 : decode cX12_place 33 = .ok (.iconst 0, 1) := by decide +kernel
theorem d_X12_place_34 : decode cX12_place 34 = .ok (.ireturn, 1) := by decide +kernel
theorem d_X12_place_35 : decode cX12_place 35 = .ok (.aload_n 0, 1) := by decide +kernel
theorem d_X12_place_36 : decode cX12_place 36 = .ok (.invokevirtual 215, 3) := by decide +kernel
theorem d_X12_place_39 : decode cX12_place 39 = .ok (.aload_n 0, 1) := by decide +kernel
theorem d_X12_place_40 : decode cX12_place 40 = .ok (.invokevirtual 278, 3) := by decide +kernel
theorem d_X12_place_43 : decode cX12_place 43 = .ok (.iload_n 2, 1) := by decide +kernel
theorem d_X12_place_44 : decode cX12_place 44 = .ok (.ireturn, 1) := by decide +kernel
theorem d_X12_chain_0 : decode cX12_chain 0 = .ok (.aload_n 0, 1) := by decide +kernel
theorem d_X12_chain_1 : decode cX12_chain 1 = .ok (.iconst 0, 1) := by decide +kernel
theorem d_X12_chain_2 : decode cX12_chain 2 = .ok (.putfield 1, 3) := by decide +kernel
theorem d_X12_chain_5 : decode cX12_chain 5 = .ok (.aload_n 0, 1) := by decide +kernel
theorem d_X12_chain_6 : decode cX12_chain 6 = .ok (.iload_n 1, 1) := by decide +kernel
theorem d_X12_chain_7 : decode cX12_chain 7 = .ok (.invokevirtual 218, 3) := by decide +kernel
theorem d_X12_chain_10 : decode cX12_chain 10 = .ok (.ifCond .eq 19, 3) := by decide +kernel
theorem d_X12_chain_13 : decode cX12_chain 13 = .ok (.aload_n 0, 1) := by decide +kernel
theorem d_X12_chain_14 : decode cX12_chain 14 = .ok (.iload_n 1, 1) := by decide +kernel
theorem d_X12_chain_15 : decode cX12_chain 15 = .ok (.invokevirtual 272, 3) := by decide +kernel
theorem d_X12_chain_18 : decode cX12_chain 18 = .ok (.ifCond .eq 11, 3) := by decide +kernel
theorem d_X12_chain_21 : decode cX12_chain 21 = .ok (.aload_n 0, 1) := by decide +kernel
theorem d_X12_chain_22 : decode cX12_chain 22 = .ok (.iload_n 1, 1) := by decide +kernel
theorem d_X12_chain_23 : decode cX12_chain 23 = .ok (.invokevirtual 275, 3) := by decide +kernel
theorem d_X12_chain_26 : decode cX12_chain 26 = .ok (.goto 4, 3) := by decide +kernel
theorem d_X12_chain_29 : decode cX12_chain 29 = .ok (.iconst (-1), 1) := by decide +kernel
theorem d_X12_chain_30 : decode cX12_chain 30 = .ok (.ireturn, 1) := by decide +kernel
theorem d_X12_chainAt_0 : decode cX12_chainAt 0 = .ok (.aload_n 0, 1) := by decide +kernel
theorem d_X12_chainAt_1 : decode cX12_chainAt 1 = .ok (.iconst 0, 1) := by decide +kernel
theorem d_X12_chainAt_2 : decode cX12_chainAt 2 = .ok (.putfield 1, 3) := by decide +kernel
theorem d_X12_chainAt_5 : decode cX12_chainAt 5 = .ok (.iload_n 1, 1) := by decide +kernel
theorem d_X12_chainAt_6 : decode cX12_chainAt 6 = .ok (.iconst 0, 1) := by decide +kernel
theorem d_X12_chainAt_7 : decode cX12_chainAt 7 = .ok (.aload_n 0, 1) := by decide +kernel
theorem d_X12_chainAt_8 : decode cX12_chainAt 8 = .ok (.getfield 269, 3) := by decide +kernel
theorem d_X12_chainAt_11 : decode cX12_chainAt 11 = .ok (.iconst 1, 1) := by decide +kernel
theorem d_X12_chainAt_12 : decode cX12_chainAt 12 = .ok (.isub, 1) := by decide +kernel
theorem d_X12_chainAt_13 : decode cX12_chainAt 13 = .ok (.invokestatic 83, 3) := by decide +kernel
theorem d_X12_chainAt_16 : decode cX12_chainAt 16 = .ok (.ifCond .eq 25, 3) := by decide +kernel
theorem d_X12_chainAt_19 : decode cX12_chainAt 19 = .ok (.iload_n 2, 1) := by decide +kernel
theorem d_X12_chainAt_20 : decode cX12_chainAt 20 = .ok (.iconst 0, 1) := by decide +kernel
theorem d_X12_chainAt_21 : decode cX12_chainAt 21 = .ok (.iconst 1, 1) := by decide +kernel
theorem d_X12_chainAt_22 : decode cX12_chainAt 22 = .ok (.invokestatic 83, 3) := by decide +kernel
theorem d_X12_chainAt_25 : decode cX12_chainAt 25 = .ok (.ifCond .eq 16, 3) := by decide +kernel
theorem d_X12_chainAt_28 : decode cX12_chainAt 28 = .ok (.aload_n 0, 1) := by decide +kernel
theorem d_X12_chainAt_29 : decode cX12_chainAt 29 = .ok (.getfield 137, 3) := by decide +kernel
theorem d_X12_chainAt_32 : decode cX12_chainAt 32 = .ok (.iconst 2, 1) := by decide +kernel
theorem d_X12_chainAt_33 : decode cX12_chainAt 33 = .ok (.iload_n 1, 1) := by decide +kernel
theorem d_X12_chainAt_34 : decode cX12_chainAt 34 = .ok (.imul, 1) := by decide +kernel
theorem d_X12_chainAt_35 : decode cX12_chainAt 35 = .ok (.iload_n 2, 1) := by decide +kernel
theorem d_X12_chainAt_36 : decode cX12_chainAt 36 = .ok (.iadd, 1) := by decide +kernel
theorem d_X12_chainAt_37 : decode cX12_chainAt 37 = .ok (.iaload, 1) := by decide +kernel
theorem d_X12_chainAt_38 : decode cX12_chainAt 38 = .ok (.goto 4, 3) := by decide +kernel
theorem d_X12_chainAt_41 : decode cX12_chainAt 41 = .ok (.iconst (-1), 1) := by decide +kernel
theorem d_X12_chainAt_42 : decode cX12_chainAt 42 = .ok (.ireturn, 1) := by decide +kernel
theorem d_X12_crowd_0 : decode cX12_crowd 0 = .ok (.aload_n 0, 1) := by decide +kernel
theorem d_X12_crowd_1 : decode cX12_crowd 1 = .ok (.iconst 0, 1) := by decide +kernel
theorem d_X12_crowd_2 : decode cX12_crowd 2 = .ok (.putfield 1, 3) := by decide +kernel
theorem d_X12_crowd_5 : decode cX12_crowd 5 = .ok (.aload_n 0, 1) := by decide +kernel
theorem d_X12_crowd_6 : decode cX12_crowd 6 = .ok (.getfield 266, 3) := by decide +kernel
theorem d_X12_crowd_9 : decode cX12_crowd 9 = .ok (.ireturn, 1) := by decide +kernel
theorem d_X12_stay_0 : decode cX12_stay 0 = .ok (.aload_n 0, 1) := by decide +kernel
theorem d_X12_stay_1 : decode cX12_stay 1 = .ok (.getfield 99, 3) := by decide +kernel
theorem d_X12_stay_4 : decode cX12_stay 4 = .ok (.iconst 0, 1) := by decide +kernel
theorem d_X12_stay_5 : decode cX12_stay 5 = .ok (.aload_n 0, 1) := by decide +kernel
theorem d_X12_stay_6 : decode cX12_stay 6 = .ok (.getfield 114, 3) := by decide +kernel
theorem d_X12_stay_9 : decode cX12_stay 9 = .ok (.iconst 0, 1) := by decide +kernel
theorem d_X12_stay_10 : decode cX12_stay 10 = .ok (.invokestatic 184, 3) := by decide +kernel
theorem d_X12_stay_13 : decode cX12_stay 13 = .ok (.aload_n 0, 1) := by decide +kernel
theorem d_X12_stay_14 : decode cX12_stay 14 = .ok (.getfield 111, 3) := by decide +kernel
theorem d_X12_stay_17 : decode cX12_stay 17 = .ok (.iconst 0, 1) := by decide +kernel
theorem d_X12_stay_18 : decode cX12_stay 18 = .ok (.aload_n 0, 1) := by decide +kernel
theorem d_X12_stay_19 : decode cX12_stay 19 = .ok (.getfield 99, 3) := by decide +kernel
theorem d_X12_stay_22 : decode cX12_stay 22 = .ok (.iconst 0, 1) := by decide +kernel
theorem d_X12_stay_23 : decode cX12_stay 23 = .ok (.invokestatic 184, 3) := by decide +kernel
theorem d_X12_stay_26 : decode cX12_stay 26 = .ok (.aload_n 0, 1) := by decide +kernel
theorem d_X12_stay_27 : decode cX12_stay 27 = .ok (.invokevirtual 215, 3) := by decide +kernel
theorem d_X12_stay_30 : decode cX12_stay 30 = .ok (.aload_n 0, 1) := by decide +kernel
theorem d_X12_stay_31 : decode cX12_stay 31 = .ok (.getfield 114, 3) := by decide +kernel
theorem d_X12_stay_34 : decode cX12_stay 34 = .ok (.iconst 0, 1) := by decide +kernel
theorem d_X12_stay_35 : decode cX12_stay 35 = .ok (.aload_n 0, 1) := by decide +kernel
theorem d_X12_stay_36 : decode cX12_stay 36 = .ok (.getfield 99, 3) := by decide +kernel
theorem d_X12_stay_39 : decode cX12_stay 39 = .ok (.iconst 0, 1) := by decide +kernel
theorem d_X12_stay_40 : decode cX12_stay 40 = .ok (.invokestatic 184, 3) := by decide +kernel
theorem d_X12_stay_43 : decode cX12_stay 43 = .ok (.return_, 1) := by decide +kernel
theorem d_X12_places_0 : decode cX12_places 0 = .ok (.aload_n 0, 1) := by decide +kernel
theorem d_X12_places_1 : decode cX12_places 1 = .ok (.iload_n 1, 1) := by decide +kernel
theorem d_X12_places_2 : decode cX12_places 2 = .ok (.invokevirtual 272, 3) := by decide +kernel
theorem d_X12_places_5 : decode cX12_places 5 = .ok (.ifCond .eq 11, 3) := by decide +kernel
theorem d_X12_places_8 : decode cX12_places 8 = .ok (.aload_n 0, 1) := by decide +kernel
theorem d_X12_places_9 : decode cX12_places 9 = .ok (.iload_n 1, 1) := by decide +kernel
theorem d_X12_places_10 : decode cX12_places 10 = .ok (.invokevirtual 263, 3) := by decide +kernel
theorem d_X12_places_13 : decode cX12_places 13 = .ok (.ifCond .ne 5, 3) := by decide +kernel
theorem d_X12_places_16 : decode cX12_places 16 = .ok (.iconst 0, 1) := by decide +kernel
theorem d_X12_places_17 : decode cX12_places 17 = .ok (.ireturn, 1) := by decide +kernel
theorem d_X12_places_18 : decode cX12_places 18 = .ok (.aload_n 0, 1) := by decide +kernel
theorem d_X12_places_19 : decode cX12_places 19 = .ok (.invokevirtual 278, 3) := by decide +kernel
theorem d_X12_places_22 : decode cX12_places 22 = .ok (.iconst 1, 1) := by decide +kernel
theorem d_X12_places_23 : decode cX12_places 23 = .ok (.ireturn, 1) := by decide +kernel
theorem d_X12_pack_0 : decode cX12_pack 0 = .ok (.aload_n 0, 1) := by decide +kernel
theorem d_X12_pack_1 : decode cX12_pack 1 = .ok (.iconst 0, 1) := by decide +kernel
theorem d_X12_pack_2 : decode cX12_pack 2 = .ok (.putfield 1, 3) := by decide +kernel
theorem d_X12_pack_5 : decode cX12_pack 5 = .ok (.aload_n 0, 1) := by decide +kernel
theorem d_X12_pack_6 : decode cX12_pack 6 = .ok (.getfield 99, 3) := by decide +kernel
theorem d_X12_pack_9 : decode cX12_pack 9 = .ok (.iconst 0, 1) := by decide +kernel
theorem d_X12_pack_10 : decode cX12_pack 10 = .ok (.aload_n 0, 1) := by decide +kernel
theorem d_X12_pack_11 : decode cX12_pack 11 = .ok (.getfield 111, 3) := by decide +kernel
theorem d_X12_pack_14 : decode cX12_pack 14 = .ok (.iconst 0, 1) := by decide +kernel
theorem d_X12_pack_15 : decode cX12_pack 15 = .ok (.invokestatic 184, 3) := by decide +kernel
theorem d_X12_pack_18 : decode cX12_pack 18 = .ok (.iconst 0, 1) := by decide +kernel
theorem d_X12_pack_19 : decode cX12_pack 19 = .ok (.istore_n 1, 1) := by decide +kernel
theorem d_X12_pack_20 : decode cX12_pack 20 = .ok (.iconst 0, 1) := by decide +kernel
theorem d_X12_pack_21 : decode cX12_pack 21 = .ok (.istore_n 2, 1) := by decide +kernel
theorem d_X12_pack_22 : decode cX12_pack 22 = .ok (.iload_n 2, 1) := by decide +kernel
theorem d_X12_pack_23 : decode cX12_pack 23 = .ok (.aload_n 0, 1) := by decide +kernel
theorem d_X12_pack_24 : decode cX12_pack 24 = .ok (.invokevirtual 194, 3) := by decide +kernel
theorem d_X12_pack_27 : decode cX12_pack 27 = .ok (.if_icmp .ge 20, 3) := by decide +kernel
theorem d_X12_pack_30 : decode cX12_pack 30 = .ok (.aload_n 0, 1) := by decide +kernel
theorem d_X12_pack_31 : decode cX12_pack 31 = .ok (.iload_n 2, 1) := by decide +kernel
theorem d_X12_pack_32 : decode cX12_pack 32 = .ok (.invokevirtual 281, 3) := by decide +kernel
theorem d_X12_pack_35 : decode cX12_pack 35 = .ok (.ifCond .eq 6, 3) := by decide +kernel
theorem d_X12_pack_38 : decode cX12_pack 38 = .ok (.iinc 1 1, 3) := by decide +kernel
theorem d_X12_pack_41 : decode cX12_pack 41 = .ok (.iinc 2 1, 3) := by decide +kernel
theorem d_X12_pack_44 : decode cX12_pack 44 = .ok (.goto (-22), 3) := by decide +kernel
theorem d_X12_pack_47 : decode cX12_pack 47 = .ok (.iload_n 1, 1) := by decide +kernel
theorem d_X12_pack_48 : decode cX12_pack 48 = .ok (.ifCond .le 7, 3) := by decide +kernel
theorem d_X12_pack_51 : decode cX12_pack 51 = .ok (.aload_n 0, 1) := by decide +kernel
theorem d_X12_pack_52 : decode cX12_pack 52 = .ok (.invokevirtual 284, 3) := by decide +kernel
theorem d_X12_pack_55 : decode cX12_pack 55 = .ok (.iload_n 1, 1) := by decide +kernel
theorem d_X12_pack_56 : decode cX12_pack 56 = .ok (.ireturn, 1) := by decide +kernel
theorem d_X12_tradeOf_0 : decode cX12_tradeOf 0 = .ok (.aload_n 0, 1) := by decide +kernel
theorem d_X12_tradeOf_1 : decode cX12_tradeOf 1 = .ok (.iload_n 1, 1) := by decide +kernel
theorem d_X12_tradeOf_2 : decode cX12_tradeOf 2 = .ok (.invokevirtual 203, 3) := by decide +kernel
theorem d_X12_tradeOf_5 : decode cX12_tradeOf 5 = .ok (.istore_n 3, 1) := by decide +kernel
theorem d_X12_tradeOf_6 : decode cX12_tradeOf 6 = .ok (.iload_n 3, 1) := by decide +kernel
theorem d_X12_tradeOf_7 : decode cX12_tradeOf 7 = .ok (.iconst (-1), 1) := by decide +kernel
theorem d_X12_tradeOf_8 : decode cX12_tradeOf 8 = .ok (.if_icmp .eq 42, 3) := by decide +kernel
theorem d_X12_tradeOf_11 : decode cX12_tradeOf 11 = .ok (.iload_n 3, 1) := by decide +kernel
theorem d_X12_tradeOf_12 : decode cX12_tradeOf 12 = .ok (.iload_n 2, 1) := by decide +kernel
theorem d_X12_tradeOf_13 : decode cX12_tradeOf 13 = .ok (.if_icmp .eq 37, 3) := by decide +kernel
theorem d_X12_tradeOf_16 : decode cX12_tradeOf 16 = .ok (.aload_n 0, 1) := by decide +kernel
theorem d_X12_tradeOf_17 : decode cX12_tradeOf 17 = .ok (.iload_n 2, 1) := by decide +kernel
theorem d_X12_tradeOf_18 : decode cX12_tradeOf 18 = .ok (.invokevirtual 227, 3) := by decide +kernel
theorem d_X12_tradeOf_21 : decode cX12_tradeOf 21 = .ok (.invokestatic 236, 3) := by decide +kernel
theorem d_X12_tradeOf_24 : decode cX12_tradeOf 24 = .ok (.aload_n 0, 1) := by decide +kernel
theorem d_X12_tradeOf_25 : decode cX12_tradeOf 25 = .ok (.invokevirtual 191, 3) := by decide +kernel
theorem d_X12_tradeOf_28 : decode cX12_tradeOf 28 = .ok (.iconst 1, 1) := by decide +kernel
theorem d_X12_tradeOf_29 : decode cX12_tradeOf 29 = .ok (.isub, 1) := by decide +kernel
theorem d_X12_tradeOf_30 : decode cX12_tradeOf 30 = .ok (.if_icmp .ne 20, 3) := by decide +kernel
theorem d_X12_tradeOf_33 : decode cX12_tradeOf 33 = .ok (.aload_n 0, 1) := by decide +kernel
theorem d_X12_tradeOf_34 : decode cX12_tradeOf 34 = .ok (.iload_n 3, 1) := by decide +kernel
theorem d_X12_tradeOf_35 : decode cX12_tradeOf 35 = .ok (.invokevirtual 227, 3) := by decide +kernel
theorem d_X12_tradeOf_38 : decode cX12_tradeOf 38 = .ok (.invokestatic 236, 3) := by decide +kernel
theorem d_X12_tradeOf_41 : decode cX12_tradeOf 41 = .ok (.aload_n 0, 1) := by decide +kernel
theorem d_X12_tradeOf_42 : decode cX12_tradeOf 42 = .ok (.invokevirtual 191, 3) := by decide +kernel
theorem d_X12_tradeOf_45 : decode cX12_tradeOf 45 = .ok (.iconst 1, 1) := by decide +kernel
theorem d_X12_tradeOf_46 : decode cX12_tradeOf 46 = .ok (.isub, 1) := by decide +kernel
theorem d_X12_tradeOf_47 : decode cX12_tradeOf 47 = .ok (.if_icmp .eq 5, 3) := by decide +kernel
theorem d_X12_tradeOf_50 : decode cX12_tradeOf 50 = .ok (.iconst (-1), 1) := by decide +kernel
theorem d_X12_tradeOf_51 : decode cX12_tradeOf 51 = .ok (.ireturn, 1) := by decide +kernel
theorem d_X12_tradeOf_52 : decode cX12_tradeOf 52 = .ok (.iconst 0, 1) := by decide +kernel
theorem d_X12_tradeOf_53 : decode cX12_tradeOf 53 = .ok (.istore 4, 2) := by decide +kernel
theorem d_X12_tradeOf_55 : decode cX12_tradeOf 55 = .ok (.iload 4, 2) := by decide +kernel
theorem d_X12_tradeOf_57 : decode cX12_tradeOf 57 = .ok (.aload_n 0, 1) := by decide +kernel
theorem d_X12_tradeOf_58 : decode cX12_tradeOf 58 = .ok (.invokevirtual 194, 3) := by decide +kernel
theorem d_X12_tradeOf_61 : decode cX12_tradeOf 61 = .ok (.if_icmp .ge 73, 3) := by decide +kernel
theorem d_X12_tradeOf_64 : decode cX12_tradeOf 64 = .ok (.aload_n 0, 1) := by decide +kernel
theorem d_X12_tradeOf_65 : decode cX12_tradeOf 65 = .ok (.iload 4, 2) := by decide +kernel
theorem d_X12_tradeOf_67 : decode cX12_tradeOf 67 = .ok (.invokevirtual 203, 3) := by decide +kernel
theorem d_X12_tradeOf_70 : decode cX12_tradeOf 70 = .ok (.iload_n 2, 1) := by decide +kernel
theorem d_X12_tradeOf_71 : decode cX12_tradeOf 71 = .ok (.if_icmp .eq 6, 3) := by decide +kernel
theorem d_X12_tradeOf_74 : decode cX12_tradeOf 74 = .ok (.goto 54, 3) := by decide +kernel
theorem d_X12_tradeOf_77 : decode cX12_tradeOf 77 = .ok (.aload_n 0, 1) := by decide +kernel
theorem d_X12_tradeOf_78 : decode cX12_tradeOf 78 = .ok (.iload_n 3, 1) := by decide +kernel
theorem d_X12_tradeOf_79 : decode cX12_tradeOf 79 = .ok (.invokevirtual 227, 3) := by decide +kernel
theorem d_X12_tradeOf_82 : decode cX12_tradeOf 82 = .ok (.iconst 1, 1) := by decide +kernel
theorem d_X12_tradeOf_83 : decode cX12_tradeOf 83 = .ok (.iload_n 1, 1) := by decide +kernel
theorem d_X12_tradeOf_84 : decode cX12_tradeOf 84 = .ok (.ishl, 1) := by decide +kernel
theorem d_X12_tradeOf_85 : decode cX12_tradeOf 85 = .ok (.iconst (-1), 1) := by decide +kernel
theorem d_X12_tradeOf_86 : decode cX12_tradeOf 86 = .ok (.ixor, 1) := by decide +kernel
theorem d_X12_tradeOf_87 : decode cX12_tradeOf 87 = .ok (.iand, 1) := by decide +kernel
theorem d_X12_tradeOf_88 : decode cX12_tradeOf 88 = .ok (.istore 5, 2) := by decide +kernel
theorem d_X12_tradeOf_90 : decode cX12_tradeOf 90 = .ok (.aload_n 0, 1) := by decide +kernel
theorem d_X12_tradeOf_91 : decode cX12_tradeOf 91 = .ok (.iload_n 2, 1) := by decide +kernel
theorem d_X12_tradeOf_92 : decode cX12_tradeOf 92 = .ok (.invokevirtual 227, 3) := by decide +kernel
theorem d_X12_tradeOf_95 : decode cX12_tradeOf 95 = .ok (.iconst 1, 1) := by decide +kernel
theorem d_X12_tradeOf_96 : decode cX12_tradeOf 96 = .ok (.iload 4, 2) := by decide +kernel
theorem d_X12_tradeOf_98 : decode cX12_tradeOf 98 = .ok (.ishl, 1) := by decide +kernel
theorem d_X12_tradeOf_99 : decode cX12_tradeOf 99 = .ok (.iconst (-1), 1) := by decide +kernel
theorem d_X12_tradeOf_100 : decode cX12_tradeOf 100 = .ok (.ixor, 1) := by decide +kernel
theorem d_X12_tradeOf_101 : decode cX12_tradeOf 101 = .ok (.iand, 1) := by decide +kernel
theorem d_X12_tradeOf_102 : decode cX12_tradeOf 102 = .ok (.istore 6, 2) := by decide +kernel
theorem d_X12_tradeOf_104 : decode cX12_tradeOf 104 = .ok (.aload_n 0, 1) := by decide +kernel
theorem d_X12_tradeOf_105 : decode cX12_tradeOf 105 = .ok (.iload 4, 2) := by decide +kernel
theorem d_X12_tradeOf_107 : decode cX12_tradeOf 107 = .ok (.iload 5, 2) := by decide +kernel
theorem d_X12_tradeOf_109 : decode cX12_tradeOf 109 = .ok (.invokevirtual 230, 3) := by decide +kernel
theorem d_X12_tradeOf_112 : decode cX12_tradeOf 112 = .ok (.ifCond .ne 16, 3) := by decide +kernel
theorem d_X12_tradeOf_115 : decode cX12_tradeOf 115 = .ok (.aload_n 0, 1) := by decide +kernel
theorem d_X12_tradeOf_116 : decode cX12_tradeOf 116 = .ok (.iload_n 1, 1) := by decide +kernel
theorem d_X12_tradeOf_117 : decode cX12_tradeOf 117 = .ok (.iload 6, 2) := by decide +kernel
theorem d_X12_tradeOf_119 : decode cX12_tradeOf 119 = .ok (.invokevirtual 230, 3) := by decide +kernel
theorem d_X12_tradeOf_122 : decode cX12_tradeOf 122 = .ok (.ifCond .ne 6, 3) := by decide +kernel
theorem d_X12_tradeOf_125 : decode cX12_tradeOf 125 = .ok (.iload 4, 2) := by decide +kernel
theorem d_X12_tradeOf_127 : decode cX12_tradeOf 127 = .ok (.ireturn, 1) := by decide +kernel
theorem d_X12_tradeOf_128 : decode cX12_tradeOf 128 = .ok (.iinc 4 1, 3) := by decide +kernel
theorem d_X12_tradeOf_131 : decode cX12_tradeOf 131 = .ok (.goto (-76), 3) := by decide +kernel
theorem d_X12_tradeOf_134 : decode cX12_tradeOf 134 = .ok (.iconst (-1), 1) := by decide +kernel
theorem d_X12_tradeOf_135 : decode cX12_tradeOf 135 = .ok (.ireturn, 1) := by decide +kernel
theorem d_X12_trades_0 : decode cX12_trades 0 = .ok (.aload_n 0, 1) := by decide +kernel
theorem d_X12_trades_1 : decode cX12_trades 1 = .ok (.iload_n 1, 1) := by decide +kernel
theorem d_X12_trades_2 : decode cX12_trades 2 = .ok (.invokevirtual 203, 3) := by decide +kernel
theorem d_X12_trades_5 : decode cX12_trades 5 = .ok (.istore_n 3, 1) := by decide +kernel
theorem d_X12_trades_6 : decode cX12_trades 6 = .ok (.aload_n 0, 1) := by decide +kernel
theorem d_X12_trades_7 : decode cX12_trades 7 = .ok (.getfield 99, 3) := by decide +kernel
theorem d_X12_trades_10 : decode cX12_trades 10 = .ok (.bipush 75, 2) := by decide +kernel
theorem d_X12_trades_12 : decode cX12_trades 12 = .ok (.iload_n 1, 1) := by decide +kernel
theorem d_X12_trades_13 : decode cX12_trades 13 = .ok (.iadd, 1) := by decide +kernel
theorem d_X12_trades_14 : decode cX12_trades 14 = .ok (.aload_n 0, 1) := by decide +kernel
theorem d_X12_trades_15 : decode cX12_trades 15 = .ok (.iload_n 2, 1) := by decide +kernel
theorem d_X12_trades_16 : decode cX12_trades 16 = .ok (.invokevirtual 203, 3) := by decide +kernel
theorem d_X12_trades_19 : decode cX12_trades 19 = .ok (.iastore, 1) := by decide +kernel
theorem d_X12_trades_20 : decode cX12_trades 20 = .ok (.aload_n 0, 1) := by decide +kernel
theorem d_X12_trades_21 : decode cX12_trades 21 = .ok (.getfield 99, 3) := by decide +kernel
theorem d_X12_trades_24 : decode cX12_trades 24 = .ok (.bipush 75, 2) := by decide +kernel
theorem d_X12_trades_26 : decode cX12_trades 26 = .ok (.iload_n 2, 1) := by decide +kernel
theorem d_X12_trades_27 : decode cX12_trades 27 = .ok (.iadd, 1) := by decide +kernel
theorem d_X12_trades_28 : decode cX12_trades 28 = .ok (.iload_n 3, 1) := by decide +kernel
theorem d_X12_trades_29 : decode cX12_trades 29 = .ok (.iastore, 1) := by decide +kernel
theorem d_X12_trades_30 : decode cX12_trades 30 = .ok (.return_, 1) := by decide +kernel
theorem d_X12_trade_0 : decode cX12_trade 0 = .ok (.aload_n 0, 1) := by decide +kernel
theorem d_X12_trade_1 : decode cX12_trade 1 = .ok (.iconst 0, 1) := by decide +kernel
theorem d_X12_trade_2 : decode cX12_trade 2 = .ok (.putfield 1, 3) := by decide +kernel
theorem d_X12_trade_5 : decode cX12_trade 5 = .ok (.aload_n 0, 1) := by decide +kernel
theorem d_X12_trade_6 : decode cX12_trade 6 = .ok (.iload_n 1, 1) := by decide +kernel
theorem d_X12_trade_7 : decode cX12_trade 7 = .ok (.invokevirtual 218, 3) := by decide +kernel
theorem d_X12_trade_10 : decode cX12_trade 10 = .ok (.ifCond .eq 11, 3) := by decide +kernel
theorem d_X12_trade_13 : decode cX12_trade 13 = .ok (.aload_n 0, 1) := by decide +kernel
theorem d_X12_trade_14 : decode cX12_trade 14 = .ok (.iload_n 2, 1) := by decide +kernel
theorem d_X12_trade_15 : decode cX12_trade 15 = .ok (.invokevirtual 224, 3) := by decide +kernel
theorem d_X12_trade_18 : decode cX12_trade 18 = .ok (.ifCond .ne 5, 3) := by decide +kernel
theorem d_X12_trade_21 : decode cX12_trade 21 = .ok (.iconst (-1), 1) := by decide +kernel
theorem d_X12_trade_22 : decode cX12_trade 22 = .ok (.ireturn, 1) := by decide +kernel
theorem d_X12_trade_23 : decode cX12_trade 23 = .ok (.aload_n 0, 1) := by decide +kernel
theorem d_X12_trade_24 : decode cX12_trade 24 = .ok (.iload_n 1, 1) := by decide +kernel
theorem d_X12_trade_25 : decode cX12_trade 25 = .ok (.iload_n 2, 1) := by decide +kernel
theorem d_X12_trade_26 : decode cX12_trade 26 = .ok (.invokevirtual 287, 3) := by decide +kernel
theorem d_X12_trade_29 : decode cX12_trade 29 = .ok (.istore_n 3, 1) := by decide +kernel
theorem d_X12_trade_30 : decode cX12_trade 30 = .ok (.iload_n 3, 1) := by decide +kernel
theorem d_X12_trade_31 : decode cX12_trade 31 = .ok (.iconst (-1), 1) := by decide +kernel
theorem d_X12_trade_32 : decode cX12_trade 32 = .ok (.if_icmp .ne 5, 3) := by decide +kernel
theorem d_X12_trade_35 : decode cX12_trade 35 = .ok (.iconst (-1), 1) := by decide +kernel
theorem d_X12_trade_36 : decode cX12_trade 36 = .ok (.ireturn, 1) := by decide +kernel
theorem d_X12_trade_37 : decode cX12_trade 37 = .ok (.aload_n 0, 1) := by decide +kernel
theorem d_X12_trade_38 : decode cX12_trade 38 = .ok (.invokevirtual 215, 3) := by decide +kernel
theorem d_X12_trade_41 : decode cX12_trade 41 = .ok (.aload_n 0, 1) := by decide +kernel
theorem d_X12_trade_42 : decode cX12_trade 42 = .ok (.iload_n 1, 1) := by decide +kernel
theorem d_X12_trade_43 : decode cX12_trade 43 = .ok (.iload_n 3, 1) := by decide +kernel
theorem d_X12_trade_44 : decode cX12_trade 44 = .ok (.invokevirtual 290, 3) := by decide +kernel
theorem d_X12_trade_47 : decode cX12_trade 47 = .ok (.iload_n 3, 1) := by decide +kernel
theorem d_X12_trade_48 : decode cX12_trade 48 = .ok (.ireturn, 1) := by decide +kernel
theorem d_X12_flips_0 : decode cX12_flips 0 = .ok (.aload_n 0, 1) := by decide +kernel
theorem d_X12_flips_1 : decode cX12_flips 1 = .ok (.getfield 99, 3) := by decide +kernel
theorem d_X12_flips_4 : decode cX12_flips 4 = .ok (.bipush 99, 2) := by decide +kernel
theorem d_X12_flips_6 : decode cX12_flips 6 = .ok (.iload_n 1, 1) := by decide +kernel
theorem d_X12_flips_7 : decode cX12_flips 7 = .ok (.iadd, 1) := by decide +kernel
theorem d_X12_flips_8 : decode cX12_flips 8 = .ok (.iconst 1, 1) := by decide +kernel
theorem d_X12_flips_9 : decode cX12_flips 9 = .ok (.aload_n 0, 1) := by decide +kernel
theorem d_X12_flips_10 : decode cX12_flips 10 = .ok (.getfield 99, 3) := by decide +kernel
theorem d_X12_flips_13 : decode cX12_flips 13 = .ok (.bipush 99, 2) := by decide +kernel
theorem d_X12_flips_15 : decode cX12_flips 15 = .ok (.iload_n 1, 1) := by decide +kernel
theorem d_X12_flips_16 : decode cX12_flips 16 = .ok (.iadd, 1) := by decide +kernel
theorem d_X12_flips_17 : decode cX12_flips 17 = .ok (.iaload, 1) := by decide +kernel
theorem d_X12_flips_18 : decode cX12_flips 18 = .ok (.isub, 1) := by decide +kernel
theorem d_X12_flips_19 : decode cX12_flips 19 = .ok (.iastore, 1) := by decide +kernel
theorem d_X12_flips_20 : decode cX12_flips 20 = .ok (.aload_n 0, 1) := by decide +kernel
theorem d_X12_flips_21 : decode cX12_flips 21 = .ok (.getfield 99, 3) := by decide +kernel
theorem d_X12_flips_24 : decode cX12_flips 24 = .ok (.bipush 75, 2) := by decide +kernel
theorem d_X12_flips_26 : decode cX12_flips 26 = .ok (.iload_n 1, 1) := by decide +kernel
theorem d_X12_flips_27 : decode cX12_flips 27 = .ok (.iadd, 1) := by decide +kernel
theorem d_X12_flips_28 : decode cX12_flips 28 = .ok (.iconst (-1), 1) := by decide +kernel
theorem d_X12_flips_29 : decode cX12_flips 29 = .ok (.iastore, 1) := by decide +kernel
theorem d_X12_flips_30 : decode cX12_flips 30 = .ok (.return_, 1) := by decide +kernel
theorem d_X12_flipsIf_0 : decode cX12_flipsIf 0 = .ok (.aload_n 0, 1) := by decide +kernel
theorem d_X12_flipsIf_1 : decode cX12_flipsIf 1 = .ok (.iconst 0, 1) := by decide +kernel
theorem d_X12_flipsIf_2 : decode cX12_flipsIf 2 = .ok (.putfield 1, 3) := by decide +kernel
theorem d_X12_flipsIf_5 : decode cX12_flipsIf 5 = .ok (.aload_n 0, 1) := by decide +kernel
theorem d_X12_flipsIf_6 : decode cX12_flipsIf 6 = .ok (.iload_n 1, 1) := by decide +kernel
theorem d_X12_flipsIf_7 : decode cX12_flipsIf 7 = .ok (.invokevirtual 218, 3) := by decide +kernel
theorem d_X12_flipsIf_10 : decode cX12_flipsIf 10 = .ok (.ifCond .ne 5, 3) := by decide +kernel
theorem d_X12_flipsIf_13 : decode cX12_flipsIf 13 = .ok (.iconst (-1), 1) := by decide +kernel
theorem d_X12_flipsIf_14 : decode cX12_flipsIf 14 = .ok (.ireturn, 1) := by decide +kernel
theorem d_X12_flipsIf_15 : decode cX12_flipsIf 15 = .ok (.aload_n 0, 1) := by decide +kernel
theorem d_X12_flipsIf_16 : decode cX12_flipsIf 16 = .ok (.iload_n 1, 1) := by decide +kernel
theorem d_X12_flipsIf_17 : decode cX12_flipsIf 17 = .ok (.invokevirtual 200, 3) := by decide +kernel
theorem d_X12_flipsIf_20 : decode cX12_flipsIf 20 = .ok (.iload_n 2, 1) := by decide +kernel
theorem d_X12_flipsIf_21 : decode cX12_flipsIf 21 = .ok (.if_icmp .eq 5, 3) := by decide +kernel
theorem d_X12_flipsIf_24 : decode cX12_flipsIf 24 = .ok (.iconst 1, 1) := by decide +kernel
theorem d_X12_flipsIf_25 : decode cX12_flipsIf 25 = .ok (.ireturn, 1) := by decide +kernel
theorem d_X12_flipsIf_26 : decode cX12_flipsIf 26 = .ok (.aload_n 0, 1) := by decide +kernel
theorem d_X12_flipsIf_27 : decode cX12_flipsIf 27 = .ok (.invokevirtual 215, 3) := by decide +kernel
theorem d_X12_flipsIf_30 : decode cX12_flipsIf 30 = .ok (.aload_n 0, 1) := by decide +kernel
theorem d_X12_flipsIf_31 : decode cX12_flipsIf 31 = .ok (.iload_n 1, 1) := by decide +kernel
theorem d_X12_flipsIf_32 : decode cX12_flipsIf 32 = .ok (.invokevirtual 294, 3) := by decide +kernel
theorem d_X12_flipsIf_35 : decode cX12_flipsIf 35 = .ok (.iconst 0, 1) := by decide +kernel
theorem d_X12_flipsIf_36 : decode cX12_flipsIf 36 = .ok (.ireturn, 1) := by decide +kernel
theorem d_X12_breaks_0 : decode cX12_breaks 0 = .ok (.aload_n 0, 1) := by decide +kernel
theorem d_X12_breaks_1 : decode cX12_breaks 1 = .ok (.iload_n 1, 1) := by decide +kernel
theorem d_X12_breaks_2 : decode cX12_breaks 2 = .ok (.iconst 0, 1) := by decide +kernel
theorem d_X12_breaks_3 : decode cX12_breaks 3 = .ok (.invokevirtual 297, 3) := by decide +kernel
theorem d_X12_breaks_6 : decode cX12_breaks 6 = .ok (.ireturn, 1) := by decide +kernel
theorem d_X12_mend_0 : decode cX12_mend 0 = .ok (.aload_n 0, 1) := by decide +kernel
theorem d_X12_mend_1 : decode cX12_mend 1 = .ok (.iload_n 1, 1) := by decide +kernel
theorem d_X12_mend_2 : decode cX12_mend 2 = .ok (.iconst 1, 1) := by decide +kernel
theorem d_X12_mend_3 : decode cX12_mend 3 = .ok (.invokevirtual 297, 3) := by decide +kernel
theorem d_X12_mend_6 : decode cX12_mend 6 = .ok (.ireturn, 1) := by decide +kernel
theorem d_X12_weigh_0 : decode cX12_weigh 0 = .ok (.aload_n 0, 1) := by decide +kernel
theorem d_X12_weigh_1 : decode cX12_weigh 1 = .ok (.iconst 0, 1) := by decide +kernel
theorem d_X12_weigh_2 : decode cX12_weigh 2 = .ok (.putfield 1, 3) := by decide +kernel
theorem d_X12_weigh_5 : decode cX12_weigh 5 = .ok (.aload_n 0, 1) := by decide +kernel
theorem d_X12_weigh_6 : decode cX12_weigh 6 = .ok (.iload_n 1, 1) := by decide +kernel
theorem d_X12_weigh_7 : decode cX12_weigh 7 = .ok (.invokevirtual 218, 3) := by decide +kernel
theorem d_X12_weigh_10 : decode cX12_weigh 10 = .ok (.ifCond .eq 13, 3) := by decide +kernel
theorem d_X12_weigh_13 : decode cX12_weigh 13 = .ok (.iload_n 2, 1) := by decide +kernel
theorem d_X12_weigh_14 : decode cX12_weigh 14 = .ok (.iconst 1, 1) := by decide +kernel
theorem d_X12_weigh_15 : decode cX12_weigh 15 = .ok (.bipush 99, 2) := by decide +kernel
theorem d_X12_weigh_17 : decode cX12_weigh 17 = .ok (.invokestatic 83, 3) := by decide +kernel
theorem d_X12_weigh_20 : decode cX12_weigh 20 = .ok (.ifCond .ne 5, 3) := by decide +kernel
theorem d_X12_weigh_23 : decode cX12_weigh 23 = .ok (.iconst (-1), 1) := by decide +kernel
theorem d_X12_weigh_24 : decode cX12_weigh 24 = .ok (.ireturn, 1) := by decide +kernel
theorem d_X12_weigh_25 : decode cX12_weigh 25 = .ok (.aload_n 0, 1) := by decide +kernel
theorem d_X12_weigh_26 : decode cX12_weigh 26 = .ok (.getfield 99, 3) := by decide +kernel
theorem d_X12_weigh_29 : decode cX12_weigh 29 = .ok (.bipush 51, 2) := by decide +kernel
theorem d_X12_weigh_31 : decode cX12_weigh 31 = .ok (.iload_n 1, 1) := by decide +kernel
theorem d_X12_weigh_32 : decode cX12_weigh 32 = .ok (.iadd, 1) := by decide +kernel
theorem d_X12_weigh_33 : decode cX12_weigh 33 = .ok (.iaload, 1) := by decide +kernel
theorem d_X12_weigh_34 : decode cX12_weigh 34 = .ok (.iload_n 2, 1) := by decide +kernel
theorem d_X12_weigh_35 : decode cX12_weigh 35 = .ok (.if_icmp .ne 5, 3) := by decide +kernel
theorem d_X12_weigh_38 : decode cX12_weigh 38 = .ok (.iconst 1, 1) := by decide +kernel
theorem d_X12_weigh_39 : decode cX12_weigh 39 = .ok (.ireturn, 1) := by decide +kernel
theorem d_X12_weigh_40 : decode cX12_weigh 40 = .ok (.aload_n 0, 1) := by decide +kernel
theorem d_X12_weigh_41 : decode cX12_weigh 41 = .ok (.invokevirtual 215, 3) := by decide +kernel
theorem d_X12_weigh_44 : decode cX12_weigh 44 = .ok (.aload_n 0, 1) := by decide +kernel
theorem d_X12_weigh_45 : decode cX12_weigh 45 = .ok (.getfield 99, 3) := by decide +kernel
theorem d_X12_weigh_48 : decode cX12_weigh 48 = .ok (.bipush 51, 2) := by decide +kernel
theorem d_X12_weigh_50 : decode cX12_weigh 50 = .ok (.iload_n 1, 1) := by decide +kernel
theorem d_X12_weigh_51 : decode cX12_weigh 51 = .ok (.iadd, 1) := by decide +kernel
theorem d_X12_weigh_52 : decode cX12_weigh 52 = .ok (.iload_n 2, 1) := by decide +kernel
theorem d_X12_weigh_53 : decode cX12_weigh 53 = .ok (.iastore, 1) := by decide +kernel
theorem d_X12_weigh_54 : decode cX12_weigh 54 = .ok (.iconst 0, 1) := by decide +kernel
theorem d_X12_weigh_55 : decode cX12_weigh 55 = .ok (.ireturn, 1) := by decide +kernel
theorem d_X12_outOf_0 : decode cX12_outOf 0 = .ok (.aload_n 0, 1) := by decide +kernel
theorem d_X12_outOf_1 : decode cX12_outOf 1 = .ok (.getfield 99, 3) := by decide +kernel
theorem d_X12_outOf_4 : decode cX12_outOf 4 = .ok (.aload_n 0, 1) := by decide +kernel
theorem d_X12_outOf_5 : decode cX12_outOf 5 = .ok (.getfield 99, 3) := by decide +kernel
theorem d_X12_outOf_8 : decode cX12_outOf 8 = .ok (.bipush 123, 2) := by decide +kernel
theorem d_X12_outOf_10 : decode cX12_outOf 10 = .ok (.iload_n 1, 1) := by decide +kernel
theorem d_X12_outOf_11 : decode cX12_outOf 11 = .ok (.iadd, 1) := by decide +kernel
theorem d_X12_outOf_12 : decode cX12_outOf 12 = .ok (.iaload, 1) := by decide +kernel
theorem d_X12_outOf_13 : decode cX12_outOf 13 = .ok (.iconst 1, 1) := by decide +kernel
theorem d_X12_outOf_14 : decode cX12_outOf 14 = .ok (.if_icmp .ne 8, 3) := by decide +kernel
theorem d_X12_outOf_17 : decode cX12_outOf 17 = .ok (.bipush 27, 2) := by decide +kernel
theorem d_X12_outOf_19 : decode cX12_outOf 19 = .ok (.goto 4, 3) := by decide +kernel
theorem d_X12_outOf_22 : decode cX12_outOf 22 = .ok (.iconst 3, 1) := by decide +kernel
theorem d_X12_outOf_23 : decode cX12_outOf 23 = .ok (.iload_n 1, 1) := by decide +kernel
theorem d_X12_outOf_24 : decode cX12_outOf 24 = .ok (.iadd, 1) := by decide +kernel
theorem d_X12_outOf_25 : decode cX12_outOf 25 = .ok (.iaload, 1) := by decide +kernel
theorem d_X12_outOf_26 : decode cX12_outOf 26 = .ok (.ireturn, 1) := by decide +kernel
theorem d_X12_turn_0 : decode cX12_turn 0 = .ok (.aload_n 0, 1) := by decide +kernel
theorem d_X12_turn_1 : decode cX12_turn 1 = .ok (.iconst 0, 1) := by decide +kernel
theorem d_X12_turn_2 : decode cX12_turn 2 = .ok (.putfield 1, 3) := by decide +kernel
theorem d_X12_turn_5 : decode cX12_turn 5 = .ok (.aload_n 0, 1) := by decide +kernel
theorem d_X12_turn_6 : decode cX12_turn 6 = .ok (.iload_n 1, 1) := by decide +kernel
theorem d_X12_turn_7 : decode cX12_turn 7 = .ok (.invokevirtual 218, 3) := by decide +kernel
theorem d_X12_turn_10 : decode cX12_turn 10 = .ok (.ifCond .ne 5, 3) := by decide +kernel
theorem d_X12_turn_13 : decode cX12_turn 13 = .ok (.iconst (-1), 1) := by decide +kernel
theorem d_X12_turn_14 : decode cX12_turn 14 = .ok (.ireturn, 1) := by decide +kernel
theorem d_X12_turn_15 : decode cX12_turn 15 = .ok (.aload_n 0, 1) := by decide +kernel
theorem d_X12_turn_16 : decode cX12_turn 16 = .ok (.invokevirtual 215, 3) := by decide +kernel
theorem d_X12_turn_19 : decode cX12_turn 19 = .ok (.aload_n 0, 1) := by decide +kernel
theorem d_X12_turn_20 : decode cX12_turn 20 = .ok (.getfield 99, 3) := by decide +kernel
theorem d_X12_turn_23 : decode cX12_turn 23 = .ok (.bipush 123, 2) := by decide +kernel
theorem d_X12_turn_25 : decode cX12_turn 25 = .ok (.iload_n 1, 1) := by decide +kernel
theorem d_X12_turn_26 : decode cX12_turn 26 = .ok (.iadd, 1) := by decide +kernel
theorem d_X12_turn_27 : decode cX12_turn 27 = .ok (.iconst 1, 1) := by decide +kernel
theorem d_X12_turn_28 : decode cX12_turn 28 = .ok (.aload_n 0, 1) := by decide +kernel
theorem d_X12_turn_29 : decode cX12_turn 29 = .ok (.getfield 99, 3) := by decide +kernel
theorem d_X12_turn_32 : decode cX12_turn 32 = .ok (.bipush 123, 2) := by decide +kernel
theorem d_X12_turn_34 : decode cX12_turn 34 = .ok (.iload_n 1, 1) := by decide +kernel
theorem d_X12_turn_35 : decode cX12_turn 35 = .ok (.iadd, 1) := by decide +kernel
theorem d_X12_turn_36 : decode cX12_turn 36 = .ok (.iaload, 1) := by decide +kernel
theorem d_X12_turn_37 : decode cX12_turn 37 = .ok (.isub, 1) := by decide +kernel
theorem d_X12_turn_38 : decode cX12_turn 38 = .ok (.iastore, 1) := by decide +kernel
theorem d_X12_turn_39 : decode cX12_turn 39 = .ok (.aload_n 0, 1) := by decide +kernel
theorem d_X12_turn_40 : decode cX12_turn 40 = .ok (.iload_n 1, 1) := by decide +kernel
theorem d_X12_turn_41 : decode cX12_turn 41 = .ok (.invokevirtual 301, 3) := by decide +kernel
theorem d_X12_turn_44 : decode cX12_turn 44 = .ok (.ireturn, 1) := by decide +kernel
theorem d_X12_isPoint_0 : decode cX12_isPoint 0 = .ok (.iload_n 1, 1) := by decide +kernel
theorem d_X12_isPoint_1 : decode cX12_isPoint 1 = .ok (.iconst 0, 1) := by decide +kernel
theorem d_X12_isPoint_2 : decode cX12_isPoint 2 = .ok (.aload_n 0, 1) := by decide +kernel
theorem d_X12_isPoint_3 : decode cX12_isPoint 3 = .ok (.invokevirtual 191, 3) := by decide +kernel
theorem d_X12_isPoint_6 : decode cX12_isPoint 6 = .ok (.iconst 1, 1) := by decide +kernel
theorem d_X12_isPoint_7 : decode cX12_isPoint 7 = .ok (.isub, 1) := by decide +kernel
theorem d_X12_isPoint_8 : decode cX12_isPoint 8 = .ok (.invokestatic 83, 3) := by decide +kernel
theorem d_X12_isPoint_11 : decode cX12_isPoint 11 = .ok (.ireturn, 1) := by decide +kernel
theorem d_X12_loadOf_0 : decode cX12_loadOf 0 = .ok (.iconst 0, 1) := by decide +kernel
theorem d_X12_loadOf_1 : decode cX12_loadOf 1 = .ok (.istore_n 2, 1) := by decide +kernel
theorem d_X12_loadOf_2 : decode cX12_loadOf 2 = .ok (.iconst 0, 1) := by decide +kernel
theorem d_X12_loadOf_3 : decode cX12_loadOf 3 = .ok (.istore_n 3, 1) := by decide +kernel
theorem d_X12_loadOf_4 : decode cX12_loadOf 4 = .ok (.iload_n 3, 1) := by decide +kernel
theorem d_X12_loadOf_5 : decode cX12_loadOf 5 = .ok (.aload_n 0, 1) := by decide +kernel
theorem d_X12_loadOf_6 : decode cX12_loadOf 6 = .ok (.invokevirtual 194, 3) := by decide +kernel
theorem d_X12_loadOf_9 : decode cX12_loadOf 9 = .ok (.if_icmp .ge 29, 3) := by decide +kernel
theorem d_X12_loadOf_12 : decode cX12_loadOf 12 = .ok (.aload_n 0, 1) := by decide +kernel
theorem d_X12_loadOf_13 : decode cX12_loadOf 13 = .ok (.iload_n 3, 1) := by decide +kernel
theorem d_X12_loadOf_14 : decode cX12_loadOf 14 = .ok (.invokevirtual 200, 3) := by decide +kernel
theorem d_X12_loadOf_17 : decode cX12_loadOf 17 = .ok (.ifCond .ne 15, 3) := by decide +kernel
theorem d_X12_loadOf_20 : decode cX12_loadOf 20 = .ok (.aload_n 0, 1) := by decide +kernel
theorem d_X12_loadOf_21 : decode cX12_loadOf 21 = .ok (.iload_n 3, 1) := by decide +kernel
theorem d_X12_loadOf_22 : decode cX12_loadOf 22 = .ok (.invokevirtual 301, 3) := by decide +kernel
theorem d_X12_loadOf_25 : decode cX12_loadOf 25 = .ok (.iload_n 1, 1) := by decide +kernel
theorem d_X12_loadOf_26 : decode cX12_loadOf 26 = .ok (.if_icmp .ne 6, 3) := by decide +kernel
theorem d_X12_loadOf_29 : decode cX12_loadOf 29 = .ok (.iinc 2 1, 3) := by decide +kernel
theorem d_X12_loadOf_32 : decode cX12_loadOf 32 = .ok (.iinc 3 1, 3) := by decide +kernel
theorem d_X12_loadOf_35 : decode cX12_loadOf 35 = .ok (.goto (-31), 3) := by decide +kernel
theorem d_X12_loadOf_38 : decode cX12_loadOf 38 = .ok (.iload_n 2, 1) := by decide +kernel
theorem d_X12_loadOf_39 : decode cX12_loadOf 39 = .ok (.ireturn, 1) := by decide +kernel
theorem d_X12_load_0 : decode cX12_load 0 = .ok (.aload_n 0, 1) := by decide +kernel
theorem d_X12_load_1 : decode cX12_load 1 = .ok (.iconst 0, 1) := by decide +kernel
theorem d_X12_load_2 : decode cX12_load 2 = .ok (.putfield 1, 3) := by decide +kernel
theorem d_X12_load_5 : decode cX12_load 5 = .ok (.aload_n 0, 1) := by decide +kernel
theorem d_X12_load_6 : decode cX12_load 6 = .ok (.iload_n 1, 1) := by decide +kernel
theorem d_X12_load_7 : decode cX12_load 7 = .ok (.invokevirtual 304, 3) := by decide +kernel
theorem d_X12_load_10 : decode cX12_load 10 = .ok (.ifCond .eq 11, 3) := by decide +kernel
theorem d_X12_load_13 : decode cX12_load 13 = .ok (.aload_n 0, 1) := by decide +kernel
theorem d_X12_load_14 : decode cX12_load 14 = .ok (.iload_n 1, 1) := by decide +kernel
theorem d_X12_load_15 : decode cX12_load 15 = .ok (.invokevirtual 307, 3) := by decide +kernel
theorem d_X12_load_18 : decode cX12_load 18 = .ok (.goto 4, 3) := by decide +kernel
theorem d_X12_load_21 : decode cX12_load 21 = .ok (.iconst (-1), 1) := by decide +kernel
theorem d_X12_load_22 : decode cX12_load 22 = .ok (.ireturn, 1) := by decide +kernel
theorem d_X12_towards_0 : decode cX12_towards 0 = .ok (.aload_n 0, 1) := by decide +kernel
theorem d_X12_towards_1 : decode cX12_towards 1 = .ok (.getfield 99, 3) := by decide +kernel
theorem d_X12_towards_4 : decode cX12_towards 4 = .ok (.aload_n 0, 1) := by decide +kernel
theorem d_X12_towards_5 : decode cX12_towards 5 = .ok (.getfield 99, 3) := by decide +kernel
theorem d_X12_towards_8 : decode cX12_towards 8 = .ok (.bipush 123, 2) := by decide +kernel
theorem d_X12_towards_10 : decode cX12_towards 10 = .ok (.iload_n 1, 1) := by decide +kernel
theorem d_X12_towards_11 : decode cX12_towards 11 = .ok (.iadd, 1) := by decide +kernel
theorem d_X12_towards_12 : decode cX12_towards 12 = .ok (.iaload, 1) := by decide +kernel
theorem d_X12_towards_13 : decode cX12_towards 13 = .ok (.iconst 1, 1) := by decide +kernel
theorem d_X12_towards_14 : decode cX12_towards 14 = .ok (.if_icmp .ne 7, 3) := by decide +kernel
theorem d_X12_towards_17 : decode cX12_towards 17 = .ok (.iconst 3, 1) := by decide +kernel
theorem d_X12_towards_18 : decode cX12_towards 18 = .ok (.goto 5, 3) := by decide +kernel
theorem d_X12_towards_21 : decode cX12_towards 21 = .ok (.bipush 27, 2) := by decide +kernel
theorem d_X12_towards_23 : decode cX12_towards 23 = .ok (.iload_n 1, 1) := by decide +kernel
theorem d_X12_towards_24 : decode cX12_towards 24 = .ok (.iadd, 1) := by decide +kernel
theorem d_X12_towards_25 : decode cX12_towards 25 = .ok (.iaload, 1) := by decide +kernel
theorem d_X12_towards_26 : decode cX12_towards 26 = .ok (.ireturn, 1) := by decide +kernel
theorem d_X12_ease_0 : decode cX12_ease 0 = .ok (.aload_n 0, 1) := by decide +kernel
theorem d_X12_ease_1 : decode cX12_ease 1 = .ok (.iconst 0, 1) := by decide +kernel
theorem d_X12_ease_2 : decode cX12_ease 2 = .ok (.putfield 1, 3) := by decide +kernel
theorem d_X12_ease_5 : decode cX12_ease 5 = .ok (.aload_n 0, 1) := by decide +kernel
theorem d_X12_ease_6 : decode cX12_ease 6 = .ok (.invokevirtual 191, 3) := by decide +kernel
theorem d_X12_ease_9 : decode cX12_ease 9 = .ok (.ifCond .ne 5, 3) := by decide +kernel
theorem d_X12_ease_12 : decode cX12_ease 12 = .ok (.iconst 0, 1) := by decide +kernel
theorem d_X12_ease_13 : decode cX12_ease 13 = .ok (.ireturn, 1) := by decide +kernel
theorem d_X12_ease_14 : decode cX12_ease 14 = .ok (.iconst 0, 1) := by decide +kernel
theorem d_X12_ease_15 : decode cX12_ease 15 = .ok (.istore_n 1, 1) := by decide +kernel
theorem d_X12_ease_16 : decode cX12_ease 16 = .ok (.iconst 1, 1) := by decide +kernel
theorem d_X12_ease_17 : decode cX12_ease 17 = .ok (.istore_n 2, 1) := by decide +kernel
theorem d_X12_ease_18 : decode cX12_ease 18 = .ok (.iload_n 2, 1) := by decide +kernel
theorem d_X12_ease_19 : decode cX12_ease 19 = .ok (.aload_n 0, 1) := by decide +kernel
theorem d_X12_ease_20 : decode cX12_ease 20 = .ok (.invokevirtual 191, 3) := by decide +kernel
theorem d_X12_ease_23 : decode cX12_ease 23 = .ok (.if_icmp .ge 24, 3) := by decide +kernel
theorem d_X12_ease_26 : decode cX12_ease 26 = .ok (.aload_n 0, 1) := by decide +kernel
theorem d_X12_ease_27 : decode cX12_ease 27 = .ok (.iload_n 2, 1) := by decide +kernel
theorem d_X12_ease_28 : decode cX12_ease 28 = .ok (.invokevirtual 307, 3) := by decide +kernel
theorem d_X12_ease_31 : decode cX12_ease 31 = .ok (.aload_n 0, 1) := by decide +kernel
theorem d_X12_ease_32 : decode cX12_ease 32 = .ok (.iload_n 1, 1) := by decide +kernel
theorem d_X12_ease_33 : decode cX12_ease 33 = .ok (.invokevirtual 307, 3) := by decide +kernel
theorem d_X12_ease_36 : decode cX12_ease 36 = .ok (.if_icmp .le 5, 3) := by decide +kernel
theorem d_X12_ease_39 : decode cX12_ease 39 = .ok (.iload_n 2, 1) := by decide +kernel
theorem d_X12_ease_40 : decode cX12_ease 40 = .ok (.istore_n 1, 1) := by decide +kernel
theorem d_X12_ease_41 : decode cX12_ease 41 = .ok (.iinc 2 1, 3) := by decide +kernel
theorem d_X12_ease_44 : decode cX12_ease 44 = .ok (.goto (-26), 3) := by decide +kernel
theorem d_X12_ease_47 : decode cX12_ease 47 = .ok (.iconst 0, 1) := by decide +kernel
theorem d_X12_ease_48 : decode cX12_ease 48 = .ok (.istore_n 2, 1) := by decide +kernel
theorem d_X12_ease_49 : decode cX12_ease 49 = .ok (.iload_n 2, 1) := by decide +kernel
theorem d_X12_ease_50 : decode cX12_ease 50 = .ok (.aload_n 0, 1) := by decide +kernel
theorem d_X12_ease_51 : decode cX12_ease 51 = .ok (.invokevirtual 191, 3) := by decide +kernel
theorem d_X12_ease_54 : decode cX12_ease 54 = .ok (.if_icmp .ge 37, 3) := by decide +kernel
theorem d_X12_ease_57 : decode cX12_ease 57 = .ok (.aload_n 0, 1) := by decide +kernel
theorem d_X12_ease_58 : decode cX12_ease 58 = .ok (.getfield 140, 3) := by decide +kernel
theorem d_X12_ease_61 : decode cX12_ease 61 = .ok (.iload_n 2, 1) := by decide +kernel
theorem d_X12_ease_62 : decode cX12_ease 62 = .ok (.aload_n 0, 1) := by decide +kernel
theorem d_X12_ease_63 : decode cX12_ease 63 = .ok (.iload_n 2, 1) := by decide +kernel
theorem d_X12_ease_64 : decode cX12_ease 64 = .ok (.invokevirtual 307, 3) := by decide +kernel
theorem d_X12_ease_67 : decode cX12_ease 67 = .ok (.aload_n 0, 1) := by decide +kernel
theorem d_X12_ease_68 : decode cX12_ease 68 = .ok (.iload_n 1, 1) := by decide +kernel
theorem d_X12_ease_69 : decode cX12_ease 69 = .ok (.invokevirtual 307, 3) := by decide +kernel
theorem d_X12_ease_72 : decode cX12_ease 72 = .ok (.iconst 2, 1) := by decide +kernel
theorem d_X12_ease_73 : decode cX12_ease 73 = .ok (.isub, 1) := by decide +kernel
theorem d_X12_ease_74 : decode cX12_ease 74 = .ok (.if_icmp .gt 7, 3) := by decide +kernel
theorem d_X12_ease_77 : decode cX12_ease 77 = .ok (.iconst 0, 1) := by decide +kernel
theorem d_X12_ease_78 : decode cX12_ease 78 = .ok (.goto 6, 3) := by decide +kernel
theorem d_X12_ease_81 : decode cX12_ease 81 = .ok (.sipush 1000, 3) := by decide +kernel
theorem d_X12_ease_84 : decode cX12_ease 84 = .ok (.iastore, 1) := by decide +kernel
theorem d_X12_ease_85 : decode cX12_ease 85 = .ok (.iinc 2 1, 3) := by decide +kernel
theorem d_X12_ease_88 : decode cX12_ease 88 = .ok (.goto (-39), 3) := by decide +kernel
theorem d_X12_ease_91 : decode cX12_ease 91 = .ok (.iconst 0, 1) := by decide +kernel
theorem d_X12_ease_92 : decode cX12_ease 92 = .ok (.istore_n 2, 1) := by decide +kernel
theorem d_X12_ease_93 : decode cX12_ease 93 = .ok (.iload_n 2, 1) := by decide +kernel
theorem d_X12_ease_94 : decode cX12_ease 94 = .ok (.aload_n 0, 1) := by decide +kernel
theorem d_X12_ease_95 : decode cX12_ease 95 = .ok (.invokevirtual 191, 3) := by decide +kernel
theorem d_X12_ease_98 : decode cX12_ease 98 = .ok (.if_icmp .ge 80, 3) := by decide +kernel
theorem d_X12_ease_101 : decode cX12_ease 101 = .ok (.iconst 0, 1) := by decide +kernel
theorem d_X12_ease_102 : decode cX12_ease 102 = .ok (.istore_n 3, 1) := by decide +kernel
theorem d_X12_ease_103 : decode cX12_ease 103 = .ok (.iload_n 3, 1) := by decide +kernel
theorem d_X12_ease_104 : decode cX12_ease 104 = .ok (.aload_n 0, 1) := by decide +kernel
theorem d_X12_ease_105 : decode cX12_ease 105 = .ok (.invokevirtual 194, 3) := by decide +kernel
theorem d_X12_ease_108 : decode cX12_ease 108 = .ok (.if_icmp .ge 64, 3) := by decide +kernel
theorem d_X12_ease_111 : decode cX12_ease 111 = .ok (.aload_n 0, 1) := by decide +kernel
theorem d_X12_ease_112 : decode cX12_ease 112 = .ok (.iload_n 3, 1) := by decide +kernel
theorem d_X12_ease_113 : decode cX12_ease 113 = .ok (.invokevirtual 200, 3) := by decide +kernel
theorem d_X12_ease_116 : decode cX12_ease 116 = .ok (.ifCond .ne 50, 3) := by decide +kernel
theorem d_X12_ease_119 : decode cX12_ease 119 = .ok (.aload_n 0, 1) := by decide +kernel
theorem d_X12_ease_120 : decode cX12_ease 120 = .ok (.getfield 140, 3) := by decide +kernel
theorem d_X12_ease_123 : decode cX12_ease 123 = .ok (.aload_n 0, 1) := by decide +kernel
theorem d_X12_ease_124 : decode cX12_ease 124 = .ok (.iload_n 3, 1) := by decide +kernel
theorem d_X12_ease_125 : decode cX12_ease 125 = .ok (.invokevirtual 310, 3) := by decide +kernel
theorem d_X12_ease_128 : decode cX12_ease 128 = .ok (.iaload, 1) := by decide +kernel
theorem d_X12_ease_129 : decode cX12_ease 129 = .ok (.iconst 1, 1) := by decide +kernel
theorem d_X12_ease_130 : decode cX12_ease 130 = .ok (.iadd, 1) := by decide +kernel
theorem d_X12_ease_131 : decode cX12_ease 131 = .ok (.aload_n 0, 1) := by decide +kernel
theorem d_X12_ease_132 : decode cX12_ease 132 = .ok (.getfield 140, 3) := by decide +kernel
theorem d_X12_ease_135 : decode cX12_ease 135 = .ok (.aload_n 0, 1) := by decide +kernel
theorem d_X12_ease_136 : decode cX12_ease 136 = .ok (.iload_n 3, 1) := by decide +kernel
theorem d_X12_ease_137 : decode cX12_ease 137 = .ok (.invokevirtual 301, 3) := by decide +kernel
theorem d_X12_ease_140 : decode cX12_ease 140 = .ok (.iaload, 1) := by decide +kernel
theorem d_X12_ease_141 : decode cX12_ease 141 = .ok (.if_icmp .ge 25, 3) := by decide +kernel
theorem d_X12_ease_144 : decode cX12_ease 144 = .ok (.aload_n 0, 1) := by decide +kernel
theorem d_X12_ease_145 : decode cX12_ease 145 = .ok (.getfield 140, 3) := by decide +kernel
theorem d_X12_ease_148 : decode cX12_ease 148 = .ok (.aload_n 0, 1) := by decide +kernel
theorem d_X12_ease_149 : decode cX12_ease 149 = .ok (.iload_n 3, 1) := by decide +kernel
theorem d_X12_ease_150 : decode cX12_ease 150 = .ok (.invokevirtual 301, 3) := by decide +kernel
theorem d_X12_ease_153 : decode cX12_ease 153 = .ok (.aload_n 0, 1) := by decide +kernel
theorem d_X12_ease_154 : decode cX12_ease 154 = .ok (.getfield 140, 3) := by decide +kernel
theorem d_X12_ease_157 : decode cX12_ease 157 = .ok (.aload_n 0, 1) := by decide +kernel
theorem d_X12_ease_158 : decode cX12_ease 158 = .ok (.iload_n 3, 1) := by decide +kernel
theorem d_X12_ease_159 : decode cX12_ease 159 = .ok (.invokevirtual 310, 3) := by decide +kernel
theorem d_X12_ease_162 : decode cX12_ease 162 = .ok (.iaload, 1) := by decide +kernel
theorem d_X12_ease_163 : decode cX12_ease 163 = .ok (.iconst 1, 1) := by decide +kernel
theorem d_X12_ease_164 : decode cX12_ease 164 = .ok (.iadd, 1) := by decide +kernel
theorem d_X12_ease_165 : decode cX12_ease 165 = .ok (.iastore, 1) := by decide +kernel
theorem d_X12_ease_166 : decode cX12_ease 166 = .ok (.iinc 3 1, 3) := by decide +kernel
theorem d_X12_ease_169 : decode cX12_ease 169 = .ok (.goto (-66), 3) := by decide +kernel
theorem d_X12_ease_172 : decode cX12_ease 172 = .ok (.iinc 2 1, 3) := by decide +kernel
theorem d_X12_ease_175 : decode cX12_ease 175 = .ok (.goto (-82), 3) := by decide +kernel
theorem d_X12_ease_178 : decode cX12_ease 178 = .ok (.aload_n 0, 1) := by decide +kernel
theorem d_X12_ease_179 : decode cX12_ease 179 = .ok (.getfield 140, 3) := by decide +kernel
theorem d_X12_ease_182 : decode cX12_ease 182 = .ok (.iload_n 1, 1) := by decide +kernel
theorem d_X12_ease_183 : decode cX12_ease 183 = .ok (.iaload, 1) := by decide +kernel
theorem d_X12_ease_184 : decode cX12_ease 184 = .ok (.sipush 1000, 3) := by decide +kernel
theorem d_X12_ease_187 : decode cX12_ease 187 = .ok (.if_icmp .lt 5, 3) := by decide +kernel
theorem d_X12_ease_190 : decode cX12_ease 190 = .ok (.iconst 0, 1) := by decide +kernel
theorem d_X12_ease_191 : decode cX12_ease 191 = .ok (.ireturn, 1) := by decide +kernel
theorem d_X12_ease_192 : decode cX12_ease 192 = .ok (.aload_n 0, 1) := by decide +kernel
theorem d_X12_ease_193 : decode cX12_ease 193 = .ok (.invokevirtual 215, 3) := by decide +kernel
theorem d_X12_ease_196 : decode cX12_ease 196 = .ok (.aload_n 0, 1) := by decide +kernel
theorem d_X12_ease_197 : decode cX12_ease 197 = .ok (.getfield 140, 3) := by decide +kernel
theorem d_X12_ease_200 : decode cX12_ease 200 = .ok (.iload_n 1, 1) := by decide +kernel
theorem d_X12_ease_201 : decode cX12_ease 201 = .ok (.iaload, 1) := by decide +kernel
theorem d_X12_ease_202 : decode cX12_ease 202 = .ok (.istore_n 2, 1) := by decide +kernel
theorem d_X12_ease_203 : decode cX12_ease 203 = .ok (.iload_n 1, 1) := by decide +kernel
theorem d_X12_ease_204 : decode cX12_ease 204 = .ok (.istore_n 3, 1) := by decide +kernel
theorem d_X12_ease_205 : decode cX12_ease 205 = .ok (.iload_n 2, 1) := by decide +kernel
theorem d_X12_ease_206 : decode cX12_ease 206 = .ok (.istore 4, 2) := by decide +kernel
theorem d_X12_ease_208 : decode cX12_ease 208 = .ok (.iload 4, 2) := by decide +kernel
theorem d_X12_ease_210 : decode cX12_ease 210 = .ok (.ifCond .le 84, 3) := by decide +kernel
theorem d_X12_ease_213 : decode cX12_ease 213 = .ok (.iconst 0, 1) := by decide +kernel
theorem d_X12_ease_214 : decode cX12_ease 214 = .ok (.istore 5, 2) := by decide +kernel
theorem d_X12_ease_216 : decode cX12_ease 216 = .ok (.aload_n 0, 1) := by decide +kernel
theorem d_X12_ease_217 : decode cX12_ease 217 = .ok (.iload 5, 2) := by decide +kernel
theorem d_X12_ease_219 : decode cX12_ease 219 = .ok (.invokevirtual 200, 3) := by decide +kernel
theorem d_X12_ease_222 : decode cX12_ease 222 = .ok (.ifCond .ne 31, 3) := by decide +kernel
theorem d_X12_ease_225 : decode cX12_ease 225 = .ok (.aload_n 0, 1) := by decide +kernel
theorem d_X12_ease_226 : decode cX12_ease 226 = .ok (.iload 5, 2) := by decide +kernel
theorem d_X12_ease_228 : decode cX12_ease 228 = .ok (.invokevirtual 301, 3) := by decide +kernel
theorem d_X12_ease_231 : decode cX12_ease 231 = .ok (.iload_n 3, 1) := by decide +kernel
theorem d_X12_ease_232 : decode cX12_ease 232 = .ok (.if_icmp .ne 21, 3) := by decide +kernel
theorem d_X12_ease_235 : decode cX12_ease 235 = .ok (.aload_n 0, 1) := by decide +kernel
theorem d_X12_ease_236 : decode cX12_ease 236 = .ok (.getfield 140, 3) := by decide +kernel
theorem d_X12_ease_239 : decode cX12_ease 239 = .ok (.aload_n 0, 1) := by decide +kernel
theorem d_X12_ease_240 : decode cX12_ease 240 = .ok (.iload 5, 2) := by decide +kernel
theorem d_X12_ease_242 : decode cX12_ease 242 = .ok (.invokevirtual 310, 3) := by decide +kernel
theorem d_X12_ease_245 : decode cX12_ease 245 = .ok (.iaload, 1) := by decide +kernel
theorem d_X12_ease_246 : decode cX12_ease 246 = .ok (.iload 4, 2) := by decide +kernel
theorem d_X12_ease_248 : decode cX12_ease 248 = .ok (.iconst 1, 1) := by decide +kernel
theorem d_X12_ease_249 : decode cX12_ease 249 = .ok (.isub, 1) := by decide +kernel
theorem d_X12_ease_250 : decode cX12_ease 250 = .ok (.if_icmp .eq 9, 3) := by decide +kernel
theorem d_X12_ease_253 : decode cX12_ease 253 = .ok (.iinc 5 1, 3) := by decide +kernel
theorem d_X12_ease_256 : decode cX12_ease 256 = .ok (.goto (-40), 3) := by decide +kernel
theorem d_X12_ease_259 : decode cX12_ease 259 = .ok (.aload_n 0, 1) := by decide +kernel
theorem d_X12_ease_260 : decode cX12_ease 260 = .ok (.iload 5, 2) := by decide +kernel
theorem d_X12_ease_262 : decode cX12_ease 262 = .ok (.invokevirtual 310, 3) := by decide +kernel
theorem d_X12_ease_265 : decode cX12_ease 265 = .ok (.istore_n 3, 1) := by decide +kernel
theorem d_X12_ease_266 : decode cX12_ease 266 = .ok (.aload_n 0, 1) := by decide +kernel
theorem d_X12_ease_267 : decode cX12_ease 267 = .ok (.getfield 99, 3) := by decide +kernel
theorem d_X12_ease_270 : decode cX12_ease 270 = .ok (.bipush 123, 2) := by decide +kernel
theorem d_X12_ease_272 : decode cX12_ease 272 = .ok (.iload 5, 2) := by decide +kernel
theorem d_X12_ease_274 : decode cX12_ease 274 = .ok (.iadd, 1) := by decide +kernel
theorem d_X12_ease_275 : decode cX12_ease 275 = .ok (.iconst 1, 1) := by decide +kernel
theorem d_X12_ease_276 : decode cX12_ease 276 = .ok (.aload_n 0, 1) := by decide +kernel
theorem d_X12_ease_277 : decode cX12_ease 277 = .ok (.getfield 99, 3) := by decide +kernel
theorem d_X12_ease_280 : decode cX12_ease 280 = .ok (.bipush 123, 2) := by decide +kernel
theorem d_X12_ease_282 : decode cX12_ease 282 = .ok (.iload 5, 2) := by decide +kernel
theorem d_X12_ease_284 : decode cX12_ease 284 = .ok (.iadd, 1) := by decide +kernel
theorem d_X12_ease_285 : decode cX12_ease 285 = .ok (.iaload, 1) := by decide +kernel
theorem d_X12_ease_286 : decode cX12_ease 286 = .ok (.isub, 1) := by decide +kernel
theorem d_X12_ease_287 : decode cX12_ease 287 = .ok (.iastore, 1) := by decide +kernel
theorem d_X12_ease_288 : decode cX12_ease 288 = .ok (.iinc 4 (-1), 3) := by decide +kernel
theorem d_X12_ease_291 : decode cX12_ease 291 = .ok (.goto (-83), 3) := by decide +kernel
theorem d_X12_ease_294 : decode cX12_ease 294 = .ok (.iload_n 2, 1) := by decide +kernel
theorem d_X12_ease_295 : decode cX12_ease 295 = .ok (.ireturn, 1) := by decide +kernel
theorem d_X12_treeOf_0 : decode cX12_treeOf 0 = .ok (.aload_n 0, 1) := by decide +kernel
theorem d_X12_treeOf_1 : decode cX12_treeOf 1 = .ok (.iload_n 1, 1) := by decide +kernel
theorem d_X12_treeOf_2 : decode cX12_treeOf 2 = .ok (.invokevirtual 227, 3) := by decide +kernel
theorem d_X12_treeOf_5 : decode cX12_treeOf 5 = .ok (.aload_n 0, 1) := by decide +kernel
theorem d_X12_treeOf_6 : decode cX12_treeOf 6 = .ok (.getfield 146, 3) := by decide +kernel
theorem d_X12_treeOf_9 : decode cX12_treeOf 9 = .ok (.iconst 0, 1) := by decide +kernel
theorem d_X12_treeOf_10 : decode cX12_treeOf 10 = .ok (.iaload, 1) := by decide +kernel
theorem d_X12_treeOf_11 : decode cX12_treeOf 11 = .ok (.iconst (-1), 1) := by decide +kernel
theorem d_X12_treeOf_12 : decode cX12_treeOf 12 = .ok (.ixor, 1) := by decide +kernel
theorem d_X12_treeOf_13 : decode cX12_treeOf 13 = .ok (.iand, 1) := by decide +kernel
theorem d_X12_treeOf_14 : decode cX12_treeOf 14 = .ok (.aload_n 0, 1) := by decide +kernel
theorem d_X12_treeOf_15 : decode cX12_treeOf 15 = .ok (.getfield 146, 3) := by decide +kernel
theorem d_X12_treeOf_18 : decode cX12_treeOf 18 = .ok (.iconst 1, 1) := by decide +kernel
theorem d_X12_treeOf_19 : decode cX12_treeOf 19 = .ok (.iaload, 1) := by decide +kernel
theorem d_X12_treeOf_20 : decode cX12_treeOf 20 = .ok (.ior, 1) := by decide +kernel
theorem d_X12_treeOf_21 : decode cX12_treeOf 21 = .ok (.ireturn, 1) := by decide +kernel
theorem d_X12_answerTo_0 : decode cX12_answerTo 0 = .ok (.aload_n 0, 1) := by decide +kernel
theorem d_X12_answerTo_1 : decode cX12_answerTo 1 = .ok (.aload_n 0, 1) := by decide +kernel
theorem d_X12_answerTo_2 : decode cX12_answerTo 2 = .ok (.iload_n 1, 1) := by decide +kernel
theorem d_X12_answerTo_3 : decode cX12_answerTo 3 = .ok (.invokevirtual 203, 3) := by decide +kernel
theorem d_X12_answerTo_6 : decode cX12_answerTo 6 = .ok (.invokevirtual 313, 3) := by decide +kernel
theorem d_X12_answerTo_9 : decode cX12_answerTo 9 = .ok (.iconst 1, 1) := by decide +kernel
theorem d_X12_answerTo_10 : decode cX12_answerTo 10 = .ok (.iload_n 1, 1) := by decide +kernel
theorem d_X12_answerTo_11 : decode cX12_answerTo 11 = .ok (.ishl, 1) := by decide +kernel
theorem d_X12_answerTo_12 : decode cX12_answerTo 12 = .ok (.iconst (-1), 1) := by decide +kernel
theorem d_X12_answerTo_13 : decode cX12_answerTo 13 = .ok (.ixor, 1) := by decide +kernel
theorem d_X12_answerTo_14 : decode cX12_answerTo 14 = .ok (.iand, 1) := by decide +kernel
theorem d_X12_answerTo_15 : decode cX12_answerTo 15 = .ok (.istore_n 2, 1) := by decide +kernel
theorem d_X12_answerTo_16 : decode cX12_answerTo 16 = .ok (.aload_n 0, 1) := by decide +kernel
theorem d_X12_answerTo_17 : decode cX12_answerTo 17 = .ok (.aload_n 0, 1) := by decide +kernel
theorem d_X12_answerTo_18 : decode cX12_answerTo 18 = .ok (.getfield 99, 3) := by decide +kernel
theorem d_X12_answerTo_21 : decode cX12_answerTo 21 = .ok (.iconst 3, 1) := by decide +kernel
theorem d_X12_answerTo_22 : decode cX12_answerTo 22 = .ok (.iload_n 1, 1) := by decide +kernel
theorem d_X12_answerTo_23 : decode cX12_answerTo 23 = .ok (.iadd, 1) := by decide +kernel
theorem d_X12_answerTo_24 : decode cX12_answerTo 24 = .ok (.iaload, 1) := by decide +kernel
theorem d_X12_answerTo_25 : decode cX12_answerTo 25 = .ok (.iload_n 2, 1) := by decide +kernel
theorem d_X12_answerTo_26 : decode cX12_answerTo 26 = .ok (.invokevirtual 212, 3) := by decide +kernel
theorem d_X12_answerTo_29 : decode cX12_answerTo 29 = .ok (.istore_n 3, 1) := by decide +kernel
theorem d_X12_answerTo_30 : decode cX12_answerTo 30 = .ok (.iconst 0, 1) := by decide +kernel
theorem d_X12_answerTo_31 : decode cX12_answerTo 31 = .ok (.istore 4, 2) := by decide +kernel
theorem d_X12_answerTo_33 : decode cX12_answerTo 33 = .ok (.iload 4, 2) := by decide +kernel
theorem d_X12_answerTo_35 : decode cX12_answerTo 35 = .ok (.aload_n 0, 1) := by decide +kernel
theorem d_X12_answerTo_36 : decode cX12_answerTo 36 = .ok (.invokevirtual 194, 3) := by decide +kernel
theorem d_X12_answerTo_39 : decode cX12_answerTo 39 = .ok (.if_icmp .ge 79, 3) := by decide +kernel
theorem d_X12_answerTo_42 : decode cX12_answerTo 42 = .ok (.aload_n 0, 1) := by decide +kernel
theorem d_X12_answerTo_43 : decode cX12_answerTo 43 = .ok (.iload 4, 2) := by decide +kernel
theorem d_X12_answerTo_45 : decode cX12_answerTo 45 = .ok (.invokevirtual 203, 3) := by decide +kernel
theorem d_X12_answerTo_48 : decode cX12_answerTo 48 = .ok (.iconst 1, 1) := by decide +kernel
theorem d_X12_answerTo_49 : decode cX12_answerTo 49 = .ok (.aload_n 0, 1) := by decide +kernel
theorem d_X12_answerTo_50 : decode cX12_answerTo 50 = .ok (.iload_n 1, 1) := by decide +kernel
theorem d_X12_answerTo_51 : decode cX12_answerTo 51 = .ok (.invokevirtual 203, 3) := by decide +kernel
theorem d_X12_answerTo_54 : decode cX12_answerTo 54 = .ok (.isub, 1) := by decide +kernel
theorem d_X12_answerTo_55 : decode cX12_answerTo 55 = .ok (.if_icmp .ne 57, 3) := by decide +kernel
theorem d_X12_answerTo_58 : decode cX12_answerTo 58 = .ok (.aload_n 0, 1) := by decide +kernel
theorem d_X12_answerTo_59 : decode cX12_answerTo 59 = .ok (.getfield 146, 3) := by decide +kernel
theorem d_X12_answerTo_62 : decode cX12_answerTo 62 = .ok (.iconst 0, 1) := by decide +kernel
theorem d_X12_answerTo_63 : decode cX12_answerTo 63 = .ok (.iaload, 1) := by decide +kernel
theorem d_X12_answerTo_64 : decode cX12_answerTo 64 = .ok (.aload_n 0, 1) := by decide +kernel
theorem d_X12_answerTo_65 : decode cX12_answerTo 65 = .ok (.getfield 146, 3) := by decide +kernel
theorem d_X12_answerTo_68 : decode cX12_answerTo 68 = .ok (.iconst 1, 1) := by decide +kernel
theorem d_X12_answerTo_69 : decode cX12_answerTo 69 = .ok (.iaload, 1) := by decide +kernel
theorem d_X12_answerTo_70 : decode cX12_answerTo 70 = .ok (.ior, 1) := by decide +kernel
theorem d_X12_answerTo_71 : decode cX12_answerTo 71 = .ok (.iload 4, 2) := by decide +kernel
theorem d_X12_answerTo_73 : decode cX12_answerTo 73 = .ok (.invokestatic 206, 3) := by decide +kernel
theorem d_X12_answerTo_76 : decode cX12_answerTo 76 = .ok (.ifCond .ne 36, 3) := by decide +kernel
theorem d_X12_answerTo_79 : decode cX12_answerTo 79 = .ok (.iload_n 3, 1) := by decide +kernel
theorem d_X12_answerTo_80 : decode cX12_answerTo 80 = .ok (.aload_n 0, 1) := by decide +kernel
theorem d_X12_answerTo_81 : decode cX12_answerTo 81 = .ok (.getfield 99, 3) := by decide +kernel
theorem d_X12_answerTo_84 : decode cX12_answerTo 84 = .ok (.iconst 3, 1) := by decide +kernel
theorem d_X12_answerTo_85 : decode cX12_answerTo 85 = .ok (.iload 4, 2) := by decide +kernel
theorem d_X12_answerTo_87 : decode cX12_answerTo 87 = .ok (.iadd, 1) := by decide +kernel
theorem d_X12_answerTo_88 : decode cX12_answerTo 88 = .ok (.iaload, 1) := by decide +kernel
theorem d_X12_answerTo_89 : decode cX12_answerTo 89 = .ok (.invokestatic 206, 3) := by decide +kernel
theorem d_X12_answerTo_92 : decode cX12_answerTo 92 = .ok (.iload_n 3, 1) := by decide +kernel
theorem d_X12_answerTo_93 : decode cX12_answerTo 93 = .ok (.aload_n 0, 1) := by decide +kernel
theorem d_X12_answerTo_94 : decode cX12_answerTo 94 = .ok (.getfield 99, 3) := by decide +kernel
theorem d_X12_answerTo_97 : decode cX12_answerTo 97 = .ok (.bipush 27, 2) := by decide +kernel
theorem d_X12_answerTo_99 : decode cX12_answerTo 99 = .ok (.iload 4, 2) := by decide +kernel
theorem d_X12_answerTo_101 : decode cX12_answerTo 101 = .ok (.iadd, 1) := by decide +kernel
theorem d_X12_answerTo_102 : decode cX12_answerTo 102 = .ok (.iaload, 1) := by decide +kernel
theorem d_X12_answerTo_103 : decode cX12_answerTo 103 = .ok (.invokestatic 206, 3) := by decide +kernel
theorem d_X12_answerTo_106 : decode cX12_answerTo 106 = .ok (.if_icmp .eq 6, 3) := by decide +kernel
theorem d_X12_answerTo_109 : decode cX12_answerTo 109 = .ok (.iload 4, 2) := by decide +kernel
theorem d_X12_answerTo_111 : decode cX12_answerTo 111 = .ok (.ireturn, 1) := by decide +kernel
theorem d_X12_answerTo_112 : decode cX12_answerTo 112 = .ok (.iinc 4 1, 3) := by decide +kernel
theorem d_X12_answerTo_115 : decode cX12_answerTo 115 = .ok (.goto (-82), 3) := by decide +kernel
theorem d_X12_answerTo_118 : decode cX12_answerTo 118 = .ok (.iconst (-1), 1) := by decide +kernel
theorem d_X12_answerTo_119 : decode cX12_answerTo 119 = .ok (.ireturn, 1) := by decide +kernel
theorem d_X12_game_0 : decode cX12_game 0 = .ok (.aload_n 0, 1) := by decide +kernel
theorem d_X12_game_1 : decode cX12_game 1 = .ok (.iconst 0, 1) := by decide +kernel
theorem d_X12_game_2 : decode cX12_game 2 = .ok (.putfield 1, 3) := by decide +kernel
theorem d_X12_game_5 : decode cX12_game 5 = .ok (.aload_n 0, 1) := by decide +kernel
theorem d_X12_game_6 : decode cX12_game 6 = .ok (.getfield 15, 3) := by decide +kernel
theorem d_X12_game_9 : decode cX12_game 9 = .ok (.istore_n 1, 1) := by decide +kernel
theorem d_X12_game_10 : decode cX12_game 10 = .ok (.aload_n 0, 1) := by decide +kernel
theorem d_X12_game_11 : decode cX12_game 11 = .ok (.iconst 0, 1) := by decide +kernel
theorem d_X12_game_12 : decode cX12_game 12 = .ok (.putfield 15, 3) := by decide +kernel
theorem d_X12_game_15 : decode cX12_game 15 = .ok (.aload_n 0, 1) := by decide +kernel
theorem d_X12_game_16 : decode cX12_game 16 = .ok (.invokevirtual 191, 3) := by decide +kernel
theorem d_X12_game_19 : decode cX12_game 19 = .ok (.iconst 2, 1) := by decide +kernel
theorem d_X12_game_20 : decode cX12_game 20 = .ok (.if_icmp .lt 45, 3) := by decide +kernel
theorem d_X12_game_23 : decode cX12_game 23 = .ok (.aload_n 0, 1) := by decide +kernel
theorem d_X12_game_24 : decode cX12_game 24 = .ok (.invokevirtual 197, 3) := by decide +kernel
theorem d_X12_game_27 : decode cX12_game 27 = .ok (.iconst 2, 1) := by decide +kernel
theorem d_X12_game_28 : decode cX12_game 28 = .ok (.if_icmp .lt 37, 3) := by decide +kernel
theorem d_X12_game_31 : decode cX12_game 31 = .ok (.aload_n 0, 1) := by decide +kernel
theorem d_X12_game_32 : decode cX12_game 32 = .ok (.iconst 0, 1) := by decide +kernel
theorem d_X12_game_33 : decode cX12_game 33 = .ok (.invokevirtual 227, 3) := by decide +kernel
theorem d_X12_game_36 : decode cX12_game 36 = .ok (.invokestatic 236, 3) := by decide +kernel
theorem d_X12_game_39 : decode cX12_game 39 = .ok (.aload_n 0, 1) := by decide +kernel
theorem d_X12_game_40 : decode cX12_game 40 = .ok (.invokevirtual 191, 3) := by decide +kernel
theorem d_X12_game_43 : decode cX12_game 43 = .ok (.iconst 1, 1) := by decide +kernel
theorem d_X12_game_44 : decode cX12_game 44 = .ok (.isub, 1) := by decide +kernel
theorem d_X12_game_45 : decode cX12_game 45 = .ok (.if_icmp .ne 20, 3) := by decide +kernel
theorem d_X12_game_48 : decode cX12_game 48 = .ok (.aload_n 0, 1) := by decide +kernel
theorem d_X12_game_49 : decode cX12_game 49 = .ok (.iconst 1, 1) := by decide +kernel
theorem d_X12_game_50 : decode cX12_game 50 = .ok (.invokevirtual 227, 3) := by decide +kernel
theorem d_X12_game_53 : decode cX12_game 53 = .ok (.invokestatic 236, 3) := by decide +kernel
theorem d_X12_game_56 : decode cX12_game 56 = .ok (.aload_n 0, 1) := by decide +kernel
theorem d_X12_game_57 : decode cX12_game 57 = .ok (.invokevirtual 191, 3) := by decide +kernel
theorem d_X12_game_60 : decode cX12_game 60 = .ok (.iconst 1, 1) := by decide +kernel
theorem d_X12_game_61 : decode cX12_game 61 = .ok (.isub, 1) := by decide +kernel
theorem d_X12_game_62 : decode cX12_game 62 = .ok (.if_icmp .eq 5, 3) := by decide +kernel
theorem d_X12_game_65 : decode cX12_game 65 = .ok (.iconst (-1), 1) := by decide +kernel
theorem d_X12_game_66 : decode cX12_game 66 = .ok (.ireturn, 1) := by decide +kernel
theorem d_X12_game_67 : decode cX12_game 67 = .ok (.aload_n 0, 1) := by decide +kernel
theorem d_X12_game_68 : decode cX12_game 68 = .ok (.getfield 146, 3) := by decide +kernel
theorem d_X12_game_71 : decode cX12_game 71 = .ok (.iconst 0, 1) := by decide +kernel
theorem d_X12_game_72 : decode cX12_game 72 = .ok (.iconst 0, 1) := by decide +kernel
theorem d_X12_game_73 : decode cX12_game 73 = .ok (.iastore, 1) := by decide +kernel
theorem d_X12_game_74 : decode cX12_game 74 = .ok (.aload_n 0, 1) := by decide +kernel
theorem d_X12_game_75 : decode cX12_game 75 = .ok (.getfield 146, 3) := by decide +kernel
theorem d_X12_game_78 : decode cX12_game 78 = .ok (.iconst 1, 1) := by decide +kernel
theorem d_X12_game_79 : decode cX12_game 79 = .ok (.iconst 0, 1) := by decide +kernel
theorem d_X12_game_80 : decode cX12_game 80 = .ok (.iastore, 1) := by decide +kernel
theorem d_X12_game_81 : decode cX12_game 81 = .ok (.aload_n 0, 1) := by decide +kernel
theorem d_X12_game_82 : decode cX12_game 82 = .ok (.iconst 0, 1) := by decide +kernel
theorem d_X12_game_83 : decode cX12_game 83 = .ok (.putfield 316, 3) := by decide +kernel
theorem d_X12_game_86 : decode cX12_game 86 = .ok (.iconst 0, 1) := by decide +kernel
theorem d_X12_game_87 : decode cX12_game 87 = .ok (.istore_n 2, 1) := by decide +kernel
theorem d_X12_game_88 : decode cX12_game 88 = .ok (.iload_n 2, 1) := by decide +kernel
theorem d_X12_game_89 : decode cX12_game 89 = .ok (.iload_n 1, 1) := by decide +kernel
theorem d_X12_game_90 : decode cX12_game 90 = .ok (.if_icmp .ge 124, 3) := by decide +kernel
theorem d_X12_game_93 : decode cX12_game 93 = .ok (.aload_n 0, 1) := by decide +kernel
theorem d_X12_game_94 : decode cX12_game 94 = .ok (.getfield 11, 3) := by decide +kernel
theorem d_X12_game_97 : decode cX12_game 97 = .ok (.iload_n 2, 1) := by decide +kernel
theorem d_X12_game_98 : decode cX12_game 98 = .ok (.iaload, 1) := by decide +kernel
theorem d_X12_game_99 : decode cX12_game 99 = .ok (.istore_n 3, 1) := by decide +kernel
theorem d_X12_game_100 : decode cX12_game 100 = .ok (.iload_n 3, 1) := by decide +kernel
theorem d_X12_game_101 : decode cX12_game 101 = .ok (.aload_n 0, 1) := by decide +kernel
theorem d_X12_game_102 : decode cX12_game 102 = .ok (.invokevirtual 194, 3) := by decide +kernel
theorem d_X12_game_105 : decode cX12_game 105 = .ok (.if_icmp .ge 109, 3) := by decide +kernel
theorem d_X12_game_108 : decode cX12_game 108 = .ok (.aload_n 0, 1) := by decide +kernel
theorem d_X12_game_109 : decode cX12_game 109 = .ok (.iload_n 3, 1) := by decide +kernel
theorem d_X12_game_110 : decode cX12_game 110 = .ok (.invokevirtual 203, 3) := by decide +kernel
theorem d_X12_game_113 : decode cX12_game 113 = .ok (.iconst (-1), 1) := by decide +kernel
theorem d_X12_game_114 : decode cX12_game 114 = .ok (.if_icmp .eq 100, 3) := by decide +kernel
theorem d_X12_game_117 : decode cX12_game 117 = .ok (.aload_n 0, 1) := by decide +kernel
theorem d_X12_game_118 : decode cX12_game 118 = .ok (.iload_n 3, 1) := by decide +kernel
theorem d_X12_game_119 : decode cX12_game 119 = .ok (.invokevirtual 203, 3) := by decide +kernel
theorem d_X12_game_122 : decode cX12_game 122 = .ok (.iconst 1, 1) := by decide +kernel
theorem d_X12_game_123 : decode cX12_game 123 = .ok (.if_icmp .gt 91, 3) := by decide +kernel
theorem d_X12_game_126 : decode cX12_game 126 = .ok (.aload_n 0, 1) := by decide +kernel
theorem d_X12_game_127 : decode cX12_game 127 = .ok (.getfield 146, 3) := by decide +kernel
theorem d_X12_game_130 : decode cX12_game 130 = .ok (.iconst 0, 1) := by decide +kernel
theorem d_X12_game_131 : decode cX12_game 131 = .ok (.iaload, 1) := by decide +kernel
theorem d_X12_game_132 : decode cX12_game 132 = .ok (.aload_n 0, 1) := by decide +kernel
theorem d_X12_game_133 : decode cX12_game 133 = .ok (.getfield 146, 3) := by decide +kernel
theorem d_X12_game_136 : decode cX12_game 136 = .ok (.iconst 1, 1) := by decide +kernel
theorem d_X12_game_137 : decode cX12_game 137 = .ok (.iaload, 1) := by decide +kernel
theorem d_X12_game_138 : decode cX12_game 138 = .ok (.ior, 1) := by decide +kernel
theorem d_X12_game_139 : decode cX12_game 139 = .ok (.iload_n 3, 1) := by decide +kernel
theorem d_X12_game_140 : decode cX12_game 140 = .ok (.invokestatic 206, 3) := by decide +kernel
theorem d_X12_game_143 : decode cX12_game 143 = .ok (.ifCond .eq 6, 3) := by decide +kernel
theorem d_X12_game_146 : decode cX12_game 146 = .ok (.goto 68, 3) := by decide +kernel
theorem d_X12_game_149 : decode cX12_game 149 = .ok (.aload_n 0, 1) := by decide +kernel
theorem d_X12_game_150 : decode cX12_game 150 = .ok (.iload_n 3, 1) := by decide +kernel
theorem d_X12_game_151 : decode cX12_game 151 = .ok (.invokevirtual 319, 3) := by decide +kernel
theorem d_X12_game_154 : decode cX12_game 154 = .ok (.istore 4, 2) := by decide +kernel
theorem d_X12_game_156 : decode cX12_game 156 = .ok (.aload_n 0, 1) := by decide +kernel
theorem d_X12_game_157 : decode cX12_game 157 = .ok (.getfield 146, 3) := by decide +kernel
theorem d_X12_game_160 : decode cX12_game 160 = .ok (.iconst 0, 1) := by decide +kernel
theorem d_X12_game_161 : decode cX12_game 161 = .ok (.dup2, 1) := by decide +kernel
theorem d_X12_game_162 : decode cX12_game 162 = .ok (.iaload, 1) := by decide +kernel
theorem d_X12_game_163 : decode cX12_game 163 = .ok (.iconst 1, 1) := by decide +kernel
theorem d_X12_game_164 : decode cX12_game 164 = .ok (.iload_n 3, 1) := by decide +kernel
theorem d_X12_game_165 : decode cX12_game 165 = .ok (.ishl, 1) := by decide +kernel
theorem d_X12_game_166 : decode cX12_game 166 = .ok (.ior, 1) := by decide +kernel
theorem d_X12_game_167 : decode cX12_game 167 = .ok (.iastore, 1) := by decide +kernel
theorem d_X12_game_168 : decode cX12_game 168 = .ok (.iload 4, 2) := by decide +kernel
theorem d_X12_game_170 : decode cX12_game 170 = .ok (.iconst (-1), 1) := by decide +kernel
theorem d_X12_game_171 : decode cX12_game 171 = .ok (.if_icmp .eq 16, 3) := by decide +kernel
theorem d_X12_game_174 : decode cX12_game 174 = .ok (.aload_n 0, 1) := by decide +kernel
theorem d_X12_game_175 : decode cX12_game 175 = .ok (.getfield 146, 3) := by decide +kernel
theorem d_X12_game_178 : decode cX12_game 178 = .ok (.iconst 1, 1) := by decide +kernel
theorem d_X12_game_179 : decode cX12_game 179 = .ok (.dup2, 1) := by decide +kernel
theorem d_X12_game_180 : decode cX12_game 180 = .ok (.iaload, 1) := by decide +kernel
theorem d_X12_game_181 : decode cX12_game 181 = .ok (.iconst 1, 1) := by decide +kernel
theorem d_X12_game_182 : decode cX12_game 182 = .ok (.iload 4, 2) := by decide +kernel
theorem d_X12_game_184 : decode cX12_game 184 = .ok (.ishl, 1) := by decide +kernel
theorem d_X12_game_185 : decode cX12_game 185 = .ok (.ior, 1) := by decide +kernel
theorem d_X12_game_186 : decode cX12_game 186 = .ok (.iastore, 1) := by decide +kernel
theorem d_X12_game_187 : decode cX12_game 187 = .ok (.aload_n 0, 1) := by decide +kernel
theorem d_X12_game_188 : decode cX12_game 188 = .ok (.getfield 143, 3) := by decide +kernel
theorem d_X12_game_191 : decode cX12_game 191 = .ok (.aload_n 0, 1) := by decide +kernel
theorem d_X12_game_192 : decode cX12_game 192 = .ok (.getfield 316, 3) := by decide +kernel
theorem d_X12_game_195 : decode cX12_game 195 = .ok (.iload 4, 2) := by decide +kernel
theorem d_X12_game_197 : decode cX12_game 197 = .ok (.iastore, 1) := by decide +kernel
theorem d_X12_game_198 : decode cX12_game 198 = .ok (.aload_n 0, 1) := by decide +kernel
theorem d_X12_game_199 : decode cX12_game 199 = .ok (.dup, 1) := by decide +kernel
theorem d_X12_game_200 : decode cX12_game 200 = .ok (.getfield 316, 3) := by decide +kernel
theorem d_X12_game_203 : decode cX12_game 203 = .ok (.iconst 1, 1) := by decide +kernel
theorem d_X12_game_204 : decode cX12_game 204 = .ok (.iadd, 1) := by decide +kernel
theorem d_X12_game_205 : decode cX12_game 205 = .ok (.putfield 316, 3) := by decide +kernel
theorem d_X12_game_208 : decode cX12_game 208 = .ok (.iinc 2 1, 3) := by decide +kernel
theorem d_X12_game_211 : decode cX12_game 211 = .ok (.goto (-123), 3) := by decide +kernel
theorem d_X12_game_214 : decode cX12_game 214 = .ok (.aload_n 0, 1) := by decide +kernel
theorem d_X12_game_215 : decode cX12_game 215 = .ok (.getfield 316, 3) := by decide +kernel
theorem d_X12_game_218 : decode cX12_game 218 = .ok (.ireturn, 1) := by decide +kernel
theorem d_X12_keptAt_0 : decode cX12_keptAt 0 = .ok (.aload_n 0, 1) := by decide +kernel
theorem d_X12_keptAt_1 : decode cX12_keptAt 1 = .ok (.iconst 0, 1) := by decide +kernel
theorem d_X12_keptAt_2 : decode cX12_keptAt 2 = .ok (.putfield 1, 3) := by decide +kernel
theorem d_X12_keptAt_5 : decode cX12_keptAt 5 = .ok (.iload_n 1, 1) := by decide +kernel
theorem d_X12_keptAt_6 : decode cX12_keptAt 6 = .ok (.iconst 0, 1) := by decide +kernel
theorem d_X12_keptAt_7 : decode cX12_keptAt 7 = .ok (.aload_n 0, 1) := by decide +kernel
theorem d_X12_keptAt_8 : decode cX12_keptAt 8 = .ok (.getfield 316, 3) := by decide +kernel
theorem d_X12_keptAt_11 : decode cX12_keptAt 11 = .ok (.iconst 1, 1) := by decide +kernel
theorem d_X12_keptAt_12 : decode cX12_keptAt 12 = .ok (.isub, 1) := by decide +kernel
theorem d_X12_keptAt_13 : decode cX12_keptAt 13 = .ok (.invokestatic 83, 3) := by decide +kernel
theorem d_X12_keptAt_16 : decode cX12_keptAt 16 = .ok (.ifCond .eq 12, 3) := by decide +kernel
theorem d_X12_keptAt_19 : decode cX12_keptAt 19 = .ok (.aload_n 0, 1) := by decide +kernel
theorem d_X12_keptAt_20 : decode cX12_keptAt 20 = .ok (.getfield 143, 3) := by decide +kernel
theorem d_X12_keptAt_23 : decode cX12_keptAt 23 = .ok (.iload_n 1, 1) := by decide +kernel
theorem d_X12_keptAt_24 : decode cX12_keptAt 24 = .ok (.iaload, 1) := by decide +kernel
theorem d_X12_keptAt_25 : decode cX12_keptAt 25 = .ok (.goto 4, 3) := by decide +kernel
theorem d_X12_keptAt_28 : decode cX12_keptAt 28 = .ok (.iconst (-1), 1) := by decide +kernel
theorem d_X12_keptAt_29 : decode cX12_keptAt 29 = .ok (.ireturn, 1) := by decide +kernel
theorem d_X12_undo_0 : decode cX12_undo 0 = .ok (.aload_n 0, 1) := by decide +kernel
theorem d_X12_undo_1 : decode cX12_undo 1 = .ok (.iconst 0, 1) := by decide +kernel
theorem d_X12_undo_2 : decode cX12_undo 2 = .ok (.putfield 1, 3) := by decide +kernel
theorem d_X12_undo_5 : decode cX12_undo 5 = .ok (.aload_n 0, 1) := by decide +kernel
theorem d_X12_undo_6 : decode cX12_undo 6 = .ok (.getfield 188, 3) := by decide +kernel
theorem d_X12_undo_9 : decode cX12_undo 9 = .ok (.ifCond .ne 5, 3) := by decide +kernel
theorem d_X12_undo_12 : decode cX12_undo 12 = .ok (.iconst (-1), 1) := by decide +kernel
theorem d_X12_undo_13 : decode cX12_undo 13 = .ok (.ireturn, 1) := by decide +kernel
theorem d_X12_undo_14 : decode cX12_undo 14 = .ok (.aload_n 0, 1) := by decide +kernel
theorem d_X12_undo_15 : decode cX12_undo 15 = .ok (.dup, 1) := by decide +kernel
theorem d_X12_undo_16 : decode cX12_undo 16 = .ok (.getfield 188, 3) := by decide +kernel
theorem d_X12_undo_19 : decode cX12_undo 19 = .ok (.iconst 1, 1) := by decide +kernel
theorem d_X12_undo_20 : decode cX12_undo 20 = .ok (.isub, 1) := by decide +kernel
theorem d_X12_undo_21 : decode cX12_undo 21 = .ok (.putfield 188, 3) := by decide +kernel
theorem d_X12_undo_24 : decode cX12_undo 24 = .ok (.aload_n 0, 1) := by decide +kernel
theorem d_X12_undo_25 : decode cX12_undo 25 = .ok (.getfield 108, 3) := by decide +kernel
theorem d_X12_undo_28 : decode cX12_undo 28 = .ok (.sipush 147, 3) := by decide +kernel
theorem d_X12_undo_31 : decode cX12_undo 31 = .ok (.aload_n 0, 1) := by decide +kernel
theorem d_X12_undo_32 : decode cX12_undo 32 = .ok (.getfield 188, 3) := by decide +kernel
theorem d_X12_undo_35 : decode cX12_undo 35 = .ok (.imul, 1) := by decide +kernel
theorem d_X12_undo_36 : decode cX12_undo 36 = .ok (.aload_n 0, 1) := by decide +kernel
theorem d_X12_undo_37 : decode cX12_undo 37 = .ok (.getfield 99, 3) := by decide +kernel
theorem d_X12_undo_40 : decode cX12_undo 40 = .ok (.iconst 0, 1) := by decide +kernel
theorem d_X12_undo_41 : decode cX12_undo 41 = .ok (.invokestatic 184, 3) := by decide +kernel
theorem d_X12_undo_44 : decode cX12_undo 44 = .ok (.aload_n 0, 1) := by decide +kernel
theorem d_X12_undo_45 : decode cX12_undo 45 = .ok (.getfield 188, 3) := by decide +kernel
theorem d_X12_undo_48 : decode cX12_undo 48 = .ok (.ireturn, 1) := by decide +kernel
theorem d_X12_isCount_0 : decode cX12_isCount 0 = .ok (.iload_n 0, 1) := by decide +kernel
theorem d_X12_isCount_1 : decode cX12_isCount 1 = .ok (.iconst 0, 1) := by decide +kernel
theorem d_X12_isCount_2 : decode cX12_isCount 2 = .ok (.bipush 24, 2) := by decide +kernel
theorem d_X12_isCount_4 : decode cX12_isCount 4 = .ok (.invokestatic 83, 3) := by decide +kernel
theorem d_X12_isCount_7 : decode cX12_isCount 7 = .ok (.ireturn, 1) := by decide +kernel
theorem d_X12_inner_0 : decode cX12_inner 0 = .ok (.iconst 0, 1) := by decide +kernel
theorem d_X12_inner_1 : decode cX12_inner 1 = .ok (.istore_n 3, 1) := by decide +kernel
theorem d_X12_inner_2 : decode cX12_inner 2 = .ok (.iconst 0, 1) := by decide +kernel
theorem d_X12_inner_3 : decode cX12_inner 3 = .ok (.istore 4, 2) := by decide +kernel
theorem d_X12_inner_5 : decode cX12_inner 5 = .ok (.iload 4, 2) := by decide +kernel
theorem d_X12_inner_7 : decode cX12_inner 7 = .ok (.aload_n 0, 1) := by decide +kernel
theorem d_X12_inner_8 : decode cX12_inner 8 = .ok (.invokevirtual 194, 3) := by decide +kernel
theorem d_X12_inner_11 : decode cX12_inner 11 = .ok (.if_icmp .ge 34, 3) := by decide +kernel
theorem d_X12_inner_14 : decode cX12_inner 14 = .ok (.iload_n 2, 1) := by decide +kernel
theorem d_X12_inner_15 : decode cX12_inner 15 = .ok (.iload 4, 2) := by decide +kernel
theorem d_X12_inner_17 : decode cX12_inner 17 = .ok (.invokestatic 206, 3) := by decide +kernel
theorem d_X12_inner_20 : decode cX12_inner 20 = .ok (.ifCond .eq 19, 3) := by decide +kernel
theorem d_X12_inner_23 : decode cX12_inner 23 = .ok (.aload_n 0, 1) := by decide +kernel
theorem d_X12_inner_24 : decode cX12_inner 24 = .ok (.iload 4, 2) := by decide +kernel
theorem d_X12_inner_26 : decode cX12_inner 26 = .ok (.invokevirtual 209, 3) := by decide +kernel
theorem d_X12_inner_29 : decode cX12_inner 29 = .ok (.iload_n 1, 1) := by decide +kernel
theorem d_X12_inner_30 : decode cX12_inner 30 = .ok (.iconst (-1), 1) := by decide +kernel
theorem d_X12_inner_31 : decode cX12_inner 31 = .ok (.ixor, 1) := by decide +kernel
theorem d_X12_inner_32 : decode cX12_inner 32 = .ok (.iand, 1) := by decide +kernel
theorem d_X12_inner_33 : decode cX12_inner 33 = .ok (.ifCond .ne 6, 3) := by decide +kernel
theorem d_X12_inner_36 : decode cX12_inner 36 = .ok (.iinc 3 1, 3) := by decide +kernel
theorem d_X12_inner_39 : decode cX12_inner 39 = .ok (.iinc 4 1, 3) := by decide +kernel
theorem d_X12_inner_42 : decode cX12_inner 42 = .ok (.goto (-37), 3) := by decide +kernel
theorem d_X12_inner_45 : decode cX12_inner 45 = .ok (.iload_n 3, 1) := by decide +kernel
theorem d_X12_inner_46 : decode cX12_inner 46 = .ok (.ireturn, 1) := by decide +kernel
theorem d_X12_canJoin_0 : decode cX12_canJoin 0 = .ok (.iconst 1, 1) := by decide +kernel
theorem d_X12_canJoin_1 : decode cX12_canJoin 1 = .ok (.istore 4, 2) := by decide +kernel
theorem d_X12_canJoin_3 : decode cX12_canJoin 3 = .ok (.iload 4, 2) := by decide +kernel
theorem d_X12_canJoin_5 : decode cX12_canJoin 5 = .ok (.iconst 1, 1) := by decide +kernel
theorem d_X12_canJoin_6 : decode cX12_canJoin 6 = .ok (.aload_n 0, 1) := by decide +kernel
theorem d_X12_canJoin_7 : decode cX12_canJoin 7 = .ok (.invokevirtual 191, 3) := by decide +kernel
theorem d_X12_canJoin_10 : decode cX12_canJoin 10 = .ok (.ishl, 1) := by decide +kernel
theorem d_X12_canJoin_11 : decode cX12_canJoin 11 = .ok (.if_icmp .ge 47, 3) := by decide +kernel
theorem d_X12_canJoin_14 : decode cX12_canJoin 14 = .ok (.aload_n 0, 1) := by decide +kernel
theorem d_X12_canJoin_15 : decode cX12_canJoin 15 = .ok (.iload_n 1, 1) := by decide +kernel
theorem d_X12_canJoin_16 : decode cX12_canJoin 16 = .ok (.invokevirtual 209, 3) := by decide +kernel
theorem d_X12_canJoin_19 : decode cX12_canJoin 19 = .ok (.iload 4, 2) := by decide +kernel
theorem d_X12_canJoin_21 : decode cX12_canJoin 21 = .ok (.iconst (-1), 1) := by decide +kernel
theorem d_X12_canJoin_22 : decode cX12_canJoin 22 = .ok (.ixor, 1) := by decide +kernel
theorem d_X12_canJoin_23 : decode cX12_canJoin 23 = .ok (.iand, 1) := by decide +kernel
theorem d_X12_canJoin_24 : decode cX12_canJoin 24 = .ok (.ifCond .ne 28, 3) := by decide +kernel
theorem d_X12_canJoin_27 : decode cX12_canJoin 27 = .ok (.aload_n 0, 1) := by decide +kernel
theorem d_X12_canJoin_28 : decode cX12_canJoin 28 = .ok (.iload 4, 2) := by decide +kernel
theorem d_X12_canJoin_30 : decode cX12_canJoin 30 = .ok (.iload_n 2, 1) := by decide +kernel
theorem d_X12_canJoin_31 : decode cX12_canJoin 31 = .ok (.iconst 1, 1) := by decide +kernel
theorem d_X12_canJoin_32 : decode cX12_canJoin 32 = .ok (.iload_n 1, 1) := by decide +kernel
theorem d_X12_canJoin_33 : decode cX12_canJoin 33 = .ok (.ishl, 1) := by decide +kernel
theorem d_X12_canJoin_34 : decode cX12_canJoin 34 = .ok (.ior, 1) := by decide +kernel
theorem d_X12_canJoin_35 : decode cX12_canJoin 35 = .ok (.invokevirtual 322, 3) := by decide +kernel
theorem d_X12_canJoin_38 : decode cX12_canJoin 38 = .ok (.iload_n 3, 1) := by decide +kernel
theorem d_X12_canJoin_39 : decode cX12_canJoin 39 = .ok (.iload 4, 2) := by decide +kernel
theorem d_X12_canJoin_41 : decode cX12_canJoin 41 = .ok (.invokestatic 236, 3) := by decide +kernel
theorem d_X12_canJoin_44 : decode cX12_canJoin 44 = .ok (.iconst 1, 1) := by decide +kernel
theorem d_X12_canJoin_45 : decode cX12_canJoin 45 = .ok (.isub, 1) := by decide +kernel
theorem d_X12_canJoin_46 : decode cX12_canJoin 46 = .ok (.imul, 1) := by decide +kernel
theorem d_X12_canJoin_47 : decode cX12_canJoin 47 = .ok (.if_icmp .le 5, 3) := by decide +kernel
theorem d_X12_canJoin_50 : decode cX12_canJoin 50 = .ok (.iconst 0, 1) := by decide +kernel
theorem d_X12_canJoin_51 : decode cX12_canJoin 51 = .ok (.ireturn, 1) := by decide +kernel
theorem d_X12_canJoin_52 : decode cX12_canJoin 52 = .ok (.iinc 4 1, 3) := by decide +kernel
theorem d_X12_canJoin_55 : decode cX12_canJoin 55 = .ok (.goto (-52), 3) := by decide +kernel
theorem d_X12_canJoin_58 : decode cX12_canJoin 58 = .ok (.iconst 1, 1) := by decide +kernel
theorem d_X12_canJoin_59 : decode cX12_canJoin 59 = .ok (.ireturn, 1) := by decide +kernel
theorem d_X12_chosen_0 : decode cX12_chosen 0 = .ok (.iconst 0, 1) := by decide +kernel
theorem d_X12_chosen_1 : decode cX12_chosen 1 = .ok (.istore_n 3, 1) := by decide +kernel
theorem d_X12_chosen_2 : decode cX12_chosen 2 = .ok (.iconst 0, 1) := by decide +kernel
theorem d_X12_chosen_3 : decode cX12_chosen 3 = .ok (.istore 4, 2) := by decide +kernel
theorem d_X12_chosen_5 : decode cX12_chosen 5 = .ok (.iload 4, 2) := by decide +kernel
theorem d_X12_chosen_7 : decode cX12_chosen 7 = .ok (.aload_n 0, 1) := by decide +kernel
theorem d_X12_chosen_8 : decode cX12_chosen 8 = .ok (.invokevirtual 194, 3) := by decide +kernel
theorem d_X12_chosen_11 : decode cX12_chosen 11 = .ok (.if_icmp .ge 36, 3) := by decide +kernel
theorem d_X12_chosen_14 : decode cX12_chosen 14 = .ok (.iload_n 1, 1) := by decide +kernel
theorem d_X12_chosen_15 : decode cX12_chosen 15 = .ok (.iload 4, 2) := by decide +kernel
theorem d_X12_chosen_17 : decode cX12_chosen 17 = .ok (.invokestatic 206, 3) := by decide +kernel
theorem d_X12_chosen_20 : decode cX12_chosen 20 = .ok (.ifCond .eq 21, 3) := by decide +kernel
theorem d_X12_chosen_23 : decode cX12_chosen 23 = .ok (.aload_n 0, 1) := by decide +kernel
theorem d_X12_chosen_24 : decode cX12_chosen 24 = .ok (.iload 4, 2) := by decide +kernel
theorem d_X12_chosen_26 : decode cX12_chosen 26 = .ok (.iload_n 3, 1) := by decide +kernel
theorem d_X12_chosen_27 : decode cX12_chosen 27 = .ok (.iload_n 2, 1) := by decide +kernel
theorem d_X12_chosen_28 : decode cX12_chosen 28 = .ok (.invokevirtual 325, 3) := by decide +kernel
theorem d_X12_chosen_31 : decode cX12_chosen 31 = .ok (.ifCond .eq 10, 3) := by decide +kernel
theorem d_X12_chosen_34 : decode cX12_chosen 34 = .ok (.iload_n 3, 1) := by decide +kernel
theorem d_X12_chosen_35 : decode cX12_chosen 35 = .ok (.iconst 1, 1) := by decide +kernel
theorem d_X12_chosen_36 : decode cX12_chosen 36 = .ok (.iload 4, 2) := by decide +kernel
theorem d_X12_chosen_38 : decode cX12_chosen 38 = .ok (.ishl, 1) := by decide +kernel
theorem d_X12_chosen_39 : decode cX12_chosen 39 = .ok (.ior, 1) := by decide +kernel
theorem d_X12_chosen_40 : decode cX12_chosen 40 = .ok (.istore_n 3, 1) := by decide +kernel
theorem d_X12_chosen_41 : decode cX12_chosen 41 = .ok (.iinc 4 1, 3) := by decide +kernel
theorem d_X12_chosen_44 : decode cX12_chosen 44 = .ok (.goto (-39), 3) := by decide +kernel
theorem d_X12_chosen_47 : decode cX12_chosen 47 = .ok (.iload_n 3, 1) := by decide +kernel
theorem d_X12_chosen_48 : decode cX12_chosen 48 = .ok (.ireturn, 1) := by decide +kernel
theorem d_X12_most_0 : decode cX12_most 0 = .ok (.aload_n 0, 1) := by decide +kernel
theorem d_X12_most_1 : decode cX12_most 1 = .ok (.iconst 0, 1) := by decide +kernel
theorem d_X12_most_2 : decode cX12_most 2 = .ok (.putfield 1, 3) := by decide +kernel
theorem d_X12_most_5 : decode cX12_most 5 = .ok (.iload_n 1, 1) := by decide +kernel
theorem d_X12_most_6 : decode cX12_most 6 = .ok (.invokestatic 328, 3) := by decide +kernel
theorem d_X12_most_9 : decode cX12_most 9 = .ok (.ifCond .eq 18, 3) := by decide +kernel
theorem d_X12_most_12 : decode cX12_most 12 = .ok (.aload_n 0, 1) := by decide +kernel
theorem d_X12_most_13 : decode cX12_most 13 = .ok (.aload_n 0, 1) := by decide +kernel
theorem d_X12_most_14 : decode cX12_most 14 = .ok (.invokevirtual 233, 3) := by decide +kernel
theorem d_X12_most_17 : decode cX12_most 17 = .ok (.iload_n 1, 1) := by decide +kernel
theorem d_X12_most_18 : decode cX12_most 18 = .ok (.invokevirtual 331, 3) := by decide +kernel
theorem d_X12_most_21 : decode cX12_most 21 = .ok (.invokestatic 236, 3) := by decide +kernel
theorem d_X12_most_24 : decode cX12_most 24 = .ok (.goto 4, 3) := by decide +kernel
theorem d_X12_most_27 : decode cX12_most 27 = .ok (.iconst (-1), 1) := by decide +kernel
theorem d_X12_most_28 : decode cX12_most 28 = .ok (.ireturn, 1) := by decide +kernel
theorem d_X12_canLie_0 : decode cX12_canLie 0 = .ok (.iconst 1, 1) := by decide +kernel
theorem d_X12_canLie_1 : decode cX12_canLie 1 = .ok (.istore_n 3, 1) := by decide +kernel
theorem d_X12_canLie_2 : decode cX12_canLie 2 = .ok (.iload_n 3, 1) := by decide +kernel
theorem d_X12_canLie_3 : decode cX12_canLie 3 = .ok (.iconst 1, 1) := by decide +kernel
theorem d_X12_canLie_4 : decode cX12_canLie 4 = .ok (.aload_n 0, 1) := by decide +kernel
theorem d_X12_canLie_5 : decode cX12_canLie 5 = .ok (.invokevirtual 191, 3) := by decide +kernel
theorem d_X12_canLie_8 : decode cX12_canLie 8 = .ok (.ishl, 1) := by decide +kernel
theorem d_X12_canLie_9 : decode cX12_canLie 9 = .ok (.if_icmp .ge 28, 3) := by decide +kernel
theorem d_X12_canLie_12 : decode cX12_canLie 12 = .ok (.aload_n 0, 1) := by decide +kernel
theorem d_X12_canLie_13 : decode cX12_canLie 13 = .ok (.iload_n 3, 1) := by decide +kernel
theorem d_X12_canLie_14 : decode cX12_canLie 14 = .ok (.iload_n 1, 1) := by decide +kernel
theorem d_X12_canLie_15 : decode cX12_canLie 15 = .ok (.invokevirtual 322, 3) := by decide +kernel
theorem d_X12_canLie_18 : decode cX12_canLie 18 = .ok (.iload_n 2, 1) := by decide +kernel
theorem d_X12_canLie_19 : decode cX12_canLie 19 = .ok (.iload_n 3, 1) := by decide +kernel
theorem d_X12_canLie_20 : decode cX12_canLie 20 = .ok (.invokestatic 236, 3) := by decide +kernel
theorem d_X12_canLie_23 : decode cX12_canLie 23 = .ok (.iconst 1, 1) := by decide +kernel
theorem d_X12_canLie_24 : decode cX12_canLie 24 = .ok (.isub, 1) := by decide +kernel
theorem d_X12_canLie_25 : decode cX12_canLie 25 = .ok (.imul, 1) := by decide +kernel
theorem d_X12_canLie_26 : decode cX12_canLie 26 = .ok (.if_icmp .le 5, 3) := by decide +kernel
theorem d_X12_canLie_29 : decode cX12_canLie 29 = .ok (.iconst 0, 1) := by decide +kernel
theorem d_X12_canLie_30 : decode cX12_canLie 30 = .ok (.ireturn, 1) := by decide +kernel
theorem d_X12_canLie_31 : decode cX12_canLie 31 = .ok (.iinc 3 1, 3) := by decide +kernel
theorem d_X12_canLie_34 : decode cX12_canLie 34 = .ok (.goto (-32), 3) := by decide +kernel
theorem d_X12_canLie_37 : decode cX12_canLie 37 = .ok (.iconst 1, 1) := by decide +kernel
theorem d_X12_canLie_38 : decode cX12_canLie 38 = .ok (.ireturn, 1) := by decide +kernel
theorem d_X12_fewest_0 : decode cX12_fewest 0 = .ok (.aload_n 0, 1) := by decide +kernel
theorem d_X12_fewest_1 : decode cX12_fewest 1 = .ok (.iconst 0, 1) := by decide +kernel
theorem d_X12_fewest_2 : decode cX12_fewest 2 = .ok (.putfield 1, 3) := by decide +kernel
theorem d_X12_fewest_5 : decode cX12_fewest 5 = .ok (.iconst 0, 1) := by decide +kernel
theorem d_X12_fewest_6 : decode cX12_fewest 6 = .ok (.istore_n 1, 1) := by decide +kernel
theorem d_X12_fewest_7 : decode cX12_fewest 7 = .ok (.aload_n 0, 1) := by decide +kernel
theorem d_X12_fewest_8 : decode cX12_fewest 8 = .ok (.aload_n 0, 1) := by decide +kernel
theorem d_X12_fewest_9 : decode cX12_fewest 9 = .ok (.invokevirtual 233, 3) := by decide +kernel
theorem d_X12_fewest_12 : decode cX12_fewest 12 = .ok (.iload_n 1, 1) := by decide +kernel
theorem d_X12_fewest_13 : decode cX12_fewest 13 = .ok (.invokevirtual 334, 3) := by decide +kernel
theorem d_X12_fewest_16 : decode cX12_fewest 16 = .ok (.ifCond .ne 9, 3) := by decide +kernel
theorem d_X12_fewest_19 : decode cX12_fewest 19 = .ok (.iinc 1 1, 3) := by decide +kernel
theorem d_X12_fewest_22 : decode cX12_fewest 22 = .ok (.goto (-15), 3) := by decide +kernel
theorem d_X12_fewest_25 : decode cX12_fewest 25 = .ok (.iload_n 1, 1) := by decide +kernel
theorem d_X12_fewest_26 : decode cX12_fewest 26 = .ok (.ireturn, 1) := by decide +kernel
theorem d_X12_trees_0 : decode cX12_trees 0 = .ok (.aload_n 0, 1) := by decide +kernel
theorem d_X12_trees_1 : decode cX12_trees 1 = .ok (.iconst 0, 1) := by decide +kernel
theorem d_X12_trees_2 : decode cX12_trees 2 = .ok (.putfield 1, 3) := by decide +kernel
theorem d_X12_trees_5 : decode cX12_trees 5 = .ok (.aload_n 0, 1) := by decide +kernel
theorem d_X12_trees_6 : decode cX12_trees 6 = .ok (.invokevirtual 191, 3) := by decide +kernel
theorem d_X12_trees_9 : decode cX12_trees 9 = .ok (.iconst 2, 1) := by decide +kernel
theorem d_X12_trees_10 : decode cX12_trees 10 = .ok (.if_icmp .ge 5, 3) := by decide +kernel
theorem d_X12_trees_13 : decode cX12_trees 13 = .ok (.iconst (-1), 1) := by decide +kernel
theorem d_X12_trees_14 : decode cX12_trees 14 = .ok (.ireturn, 1) := by decide +kernel
theorem d_X12_trees_15 : decode cX12_trees 15 = .ok (.iconst 0, 1) := by decide +kernel
theorem d_X12_trees_16 : decode cX12_trees 16 = .ok (.istore_n 1, 1) := by decide +kernel
theorem d_X12_trees_17 : decode cX12_trees 17 = .ok (.aload_n 0, 1) := by decide +kernel
theorem d_X12_trees_18 : decode cX12_trees 18 = .ok (.aload_n 0, 1) := by decide +kernel
theorem d_X12_trees_19 : decode cX12_trees 19 = .ok (.invokevirtual 233, 3) := by decide +kernel
theorem d_X12_trees_22 : decode cX12_trees 22 = .ok (.iload_n 1, 1) := by decide +kernel
theorem d_X12_trees_23 : decode cX12_trees 23 = .ok (.iconst 1, 1) := by decide +kernel
theorem d_X12_trees_24 : decode cX12_trees 24 = .ok (.iadd, 1) := by decide +kernel
theorem d_X12_trees_25 : decode cX12_trees 25 = .ok (.invokevirtual 331, 3) := by decide +kernel
theorem d_X12_trees_28 : decode cX12_trees 28 = .ok (.invokestatic 236, 3) := by decide +kernel
theorem d_X12_trees_31 : decode cX12_trees 31 = .ok (.iload_n 1, 1) := by decide +kernel
theorem d_X12_trees_32 : decode cX12_trees 32 = .ok (.iconst 1, 1) := by decide +kernel
theorem d_X12_trees_33 : decode cX12_trees 33 = .ok (.iadd, 1) := by decide +kernel
theorem d_X12_trees_34 : decode cX12_trees 34 = .ok (.aload_n 0, 1) := by decide +kernel
theorem d_X12_trees_35 : decode cX12_trees 35 = .ok (.invokevirtual 191, 3) := by decide +kernel
theorem d_X12_trees_38 : decode cX12_trees 38 = .ok (.iconst 1, 1) := by decide +kernel
theorem d_X12_trees_39 : decode cX12_trees 39 = .ok (.isub, 1) := by decide +kernel
theorem d_X12_trees_40 : decode cX12_trees 40 = .ok (.imul, 1) := by decide +kernel
theorem d_X12_trees_41 : decode cX12_trees 41 = .ok (.if_icmp .ne 9, 3) := by decide +kernel
theorem d_X12_trees_44 : decode cX12_trees 44 = .ok (.iinc 1 1, 3) := by decide +kernel
theorem d_X12_trees_47 : decode cX12_trees 47 = .ok (.goto (-30), 3) := by decide +kernel
theorem d_X12_trees_50 : decode cX12_trees 50 = .ok (.iload_n 1, 1) := by decide +kernel
theorem d_X12_trees_51 : decode cX12_trees 51 = .ok (.ireturn, 1) := by decide +kernel
theorem d_X12_standAlone_0 : decode cX12_standAlone 0 = .ok (.iconst 0, 1) := by decide +kernel
theorem d_X12_standAlone_1 : decode cX12_standAlone 1 = .ok (.istore_n 1, 1) := by decide +kernel
theorem d_X12_standAlone_2 : decode cX12_standAlone 2 = .ok (.iload_n 1, 1) := by decide +kernel
theorem d_X12_standAlone_3 : decode cX12_standAlone 3 = .ok (.bipush 10, 2) := by decide +kernel
theorem d_X12_standAlone_5 : decode cX12_standAlone 5 = .ok (.if_icmp .ge 16, 3) := by decide +kernel
theorem d_X12_standAlone_8 : decode cX12_standAlone 8 = .ok (.aload_n 0, 1) := by decide +kernel
theorem d_X12_standAlone_9 : decode cX12_standAlone 9 = .ok (.getfield 152, 3) := by decide +kernel
theorem d_X12_standAlone_12 : decode cX12_standAlone 12 = .ok (.iload_n 1, 1) := by decide +kernel
theorem d_X12_standAlone_13 : decode cX12_standAlone 13 = .ok (.iload_n 1, 1) := by decide +kernel
theorem d_X12_standAlone_14 : decode cX12_standAlone 14 = .ok (.iastore, 1) := by decide +kernel
theorem d_X12_standAlone_15 : decode cX12_standAlone 15 = .ok (.iinc 1 1, 3) := by decide +kernel
theorem d_X12_standAlone_18 : decode cX12_standAlone 18 = .ok (.goto (-16), 3) := by decide +kernel
theorem d_X12_standAlone_21 : decode cX12_standAlone 21 = .ok (.return_, 1) := by decide +kernel
theorem d_X12_laysThick_0 : decode cX12_laysThick 0 = .ok (.aload_n 0, 1) := by decide +kernel
theorem d_X12_laysThick_1 : decode cX12_laysThick 1 = .ok (.getfield 149, 3) := by decide +kernel
theorem d_X12_laysThick_4 : decode cX12_laysThick 4 = .ok (.iconst 0, 1) := by decide +kernel
theorem d_X12_laysThick_5 : decode cX12_laysThick 5 = .ok (.iconst 0, 1) := by decide +kernel
theorem d_X12_laysThick_6 : decode cX12_laysThick 6 = .ok (.iastore, 1) := by decide +kernel
theorem d_X12_laysThick_7 : decode cX12_laysThick 7 = .ok (.aload_n 0, 1) := by decide +kernel
theorem d_X12_laysThick_8 : decode cX12_laysThick 8 = .ok (.getfield 149, 3) := by decide +kernel
theorem d_X12_laysThick_11 : decode cX12_laysThick 11 = .ok (.iconst 1, 1) := by decide +kernel
theorem d_X12_laysThick_12 : decode cX12_laysThick 12 = .ok (.iconst 0, 1) := by decide +kernel
theorem d_X12_laysThick_13 : decode cX12_laysThick 13 = .ok (.iastore, 1) := by decide +kernel
theorem d_X12_laysThick_14 : decode cX12_laysThick 14 = .ok (.aload_n 0, 1) := by decide +kernel
theorem d_X12_laysThick_15 : decode cX12_laysThick 15 = .ok (.getfield 149, 3) := by decide +kernel
theorem d_X12_laysThick_18 : decode cX12_laysThick 18 = .ok (.iconst 2, 1) := by decide +kernel
theorem d_X12_laysThick_19 : decode cX12_laysThick 19 = .ok (.iconst 0, 1) := by decide +kernel
theorem d_X12_laysThick_20 : decode cX12_laysThick 20 = .ok (.iastore, 1) := by decide +kernel
