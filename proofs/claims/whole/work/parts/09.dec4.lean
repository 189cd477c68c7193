-- needs: 08.links
theorem d_X12_light_76 : decode cX12_light 76 = .ok (.ishl, 1) := by decide +kernel
theorem d_X12_light_77 : decode cX12_light 77 = .ok (.ior, 1) := by decide +kernel
theorem d_X12_light_78 : decode cX12_light 78 = .ok (.istore_n 3, 1) := by decide +kernel
theorem d_X12_light_79 : decode cX12_light 79 = .ok (.iload 4, 2) := by decide +kernel
theorem d_X12_light_81 : decode cX12_light 81 = .ok (.aload_n 0, 1) := by decide +kernel
theorem d_X12_light_82 : decode cX12_light 82 = .ok (.getfield 99, 3) := by decide +kernel
theorem d_X12_light_85 : decode cX12_light 85 = .ok (.bipush 51, 2) := by decide +kernel
theorem d_X12_light_87 : decode cX12_light 87 = .ok (.iload 6, 2) := by decide +kernel
theorem d_X12_light_89 : decode cX12_light 89 = .ok (.iadd, 1) := by decide +kernel
theorem d_X12_light_90 : decode cX12_light 90 = .ok (.iaload, 1) := by decide +kernel
theorem d_X12_light_91 : decode cX12_light 91 = .ok (.iadd, 1) := by decide +kernel
theorem d_X12_light_92 : decode cX12_light 92 = .ok (.istore 4, 2) := by decide +kernel
theorem d_X12_light_94 : decode cX12_light 94 = .ok (.goto (-60), 3) := by decide +kernel
theorem d_X12_light_97 : decode cX12_light 97 = .ok (.iload_n 2, 1) := by decide +kernel
theorem d_X12_light_98 : decode cX12_light 98 = .ok (.ifCond .ne 8, 3) := by decide +kernel
theorem d_X12_light_101 : decode cX12_light 101 = .ok (.iload 4, 2) := by decide +kernel
theorem d_X12_light_103 : decode cX12_light 103 = .ok (.goto 4, 3) := by decide +kernel
theorem d_X12_light_106 : decode cX12_light 106 = .ok (.iload_n 3, 1) := by decide +kernel
theorem d_X12_light_107 : decode cX12_light 107 = .ok (.ireturn, 1) := by decide +kernel
theorem d_X12_draw_0 : decode cX12_draw 0 = .ok (.aload_n 0, 1) := by decide +kernel
theorem d_X12_draw_1 : decode cX12_draw 1 = .ok (.aload_n 0, 1) := by decide +kernel
theorem d_X12_draw_2 : decode cX12_draw 2 = .ok (.getfield 375, 3) := by decide +kernel
theorem d_X12_draw_5 : decode cX12_draw 5 = .ok (.ldc_w 378, 3) := by decide +kernel
theorem d_X12_draw_8 : decode cX12_draw 8 = .ok (.imul, 1) := by decide +kernel
theorem d_X12_draw_9 : decode cX12_draw 9 = .ok (.sipush 12345, 3) := by decide +kernel
theorem d_X12_draw_12 : decode cX12_draw 12 = .ok (.iadd, 1) := by decide +kernel
theorem d_X12_draw_13 : decode cX12_draw 13 = .ok (.putfield 375, 3) := by decide +kernel
theorem d_X12_draw_16 : decode cX12_draw 16 = .ok (.aload_n 0, 1) := by decide +kernel
theorem d_X12_draw_17 : decode cX12_draw 17 = .ok (.getfield 375, 3) := by decide +kernel
theorem d_X12_draw_20 : decode cX12_draw 20 = .ok (.bipush 8, 2) := by decide +kernel
theorem d_X12_draw_22 : decode cX12_draw 22 = .ok (.iushr, 1) := by decide +kernel
theorem d_X12_draw_23 : decode cX12_draw 23 = .ok (.iload_n 1, 1) := by decide +kernel
theorem d_X12_draw_24 : decode cX12_draw 24 = .ok (.irem, 1) := by decide +kernel
theorem d_X12_draw_25 : decode cX12_draw 25 = .ok (.ireturn, 1) := by decide +kernel
theorem d_X12_drawsOne_0 : decode cX12_drawsOne 0 = .ok (.aload_n 0, 1) := by decide +kernel
theorem d_X12_drawsOne_1 : decode cX12_drawsOne 1 = .ok (.bipush 6, 2) := by decide +kernel
theorem d_X12_drawsOne_3 : decode cX12_drawsOne 3 = .ok (.invokevirtual 379, 3) := by decide +kernel
theorem d_X12_drawsOne_6 : decode cX12_drawsOne 6 = .ok (.istore_n 1, 1) := by decide +kernel
theorem d_X12_drawsOne_7 : decode cX12_drawsOne 7 = .ok (.aload_n 0, 1) := by decide +kernel
theorem d_X12_drawsOne_8 : decode cX12_drawsOne 8 = .ok (.aload_n 0, 1) := by decide +kernel
theorem d_X12_drawsOne_9 : decode cX12_drawsOne 9 = .ok (.invokevirtual 194, 3) := by decide +kernel
theorem d_X12_drawsOne_12 : decode cX12_drawsOne 12 = .ok (.invokevirtual 379, 3) := by decide +kernel
theorem d_X12_drawsOne_15 : decode cX12_drawsOne 15 = .ok (.istore_n 2, 1) := by decide +kernel
theorem d_X12_drawsOne_16 : decode cX12_drawsOne 16 = .ok (.iload_n 1, 1) := by decide +kernel
theorem d_X12_drawsOne_17 : decode cX12_drawsOne 17 = .ok (.tableswitch 107 0 4 #[35, 35, 41, 68, 75], 35) := by decide +kernel
theorem d_X12_drawsOne_52 : decode cX12_drawsOne 52 = .ok (.aload_n 0, 1) := by decide +kernel
theorem d_X12_drawsOne_53 : decode cX12_drawsOne 53 = .ok (.iload_n 2, 1) := by decide +kernel
theorem d_X12_drawsOne_54 : decode cX12_drawsOne 54 = .ok (.invokevirtual 281, 3) := by decide +kernel
theorem d_X12_drawsOne_57 : decode cX12_drawsOne 57 = .ok (.ireturn, 1) := by decide +kernel
theorem d_X12_drawsOne_58 : decode cX12_drawsOne 58 = .ok (.aload_n 0, 1) := by decide +kernel
theorem d_X12_drawsOne_59 : decode cX12_drawsOne 59 = .ok (.iload_n 2, 1) := by decide +kernel
theorem d_X12_drawsOne_60 : decode cX12_drawsOne 60 = .ok (.invokevirtual 203, 3) := by decide +kernel
theorem d_X12_drawsOne_63 : decode cX12_drawsOne 63 = .ok (.iconst (-1), 1) := by decide +kernel
theorem d_X12_drawsOne_64 : decode cX12_drawsOne 64 = .ok (.if_icmp .eq 7, 3) := by decide +kernel
theorem d_X12_drawsOne_67 : decode cX12_drawsOne 67 = .ok (.iconst 1, 1) := by decide +kernel
theorem d_X12_drawsOne_68 : decode cX12_drawsOne 68 = .ok (.goto 4, 3) := by decide +kernel
theorem d_X12_drawsOne_71 : decode cX12_drawsOne 71 = .ok (.iconst 0, 1) := by decide +kernel
theorem d_X12_drawsOne_72 : decode cX12_drawsOne 72 = .ok (.istore_n 3, 1) := by decide +kernel
theorem d_X12_drawsOne_73 : decode cX12_drawsOne 73 = .ok (.aload_n 0, 1) := by decide +kernel
theorem d_X12_drawsOne_74 : decode cX12_drawsOne 74 = .ok (.getfield 99, 3) := by decide +kernel
theorem d_X12_drawsOne_77 : decode cX12_drawsOne 77 = .ok (.bipush 75, 2) := by decide +kernel
theorem d_X12_drawsOne_79 : decode cX12_drawsOne 79 = .ok (.iload_n 2, 1) := by decide +kernel
theorem d_X12_drawsOne_80 : decode cX12_drawsOne 80 = .ok (.iadd, 1) := by decide +kernel
theorem d_X12_drawsOne_81 : decode cX12_drawsOne 81 = .ok (.iconst (-1), 1) := by decide +kernel
theorem d_X12_drawsOne_82 : decode cX12_drawsOne 82 = .ok (.iastore, 1) := by decide +kernel
theorem d_X12_drawsOne_83 : decode cX12_drawsOne 83 = .ok (.iload_n 3, 1) := by decide +kernel
theorem d_X12_drawsOne_84 : decode cX12_drawsOne 84 = .ok (.ireturn, 1) := by decide +kernel
theorem d_X12_drawsOne_85 : decode cX12_drawsOne 85 = .ok (.aload_n 0, 1) := by decide +kernel
theorem d_X12_drawsOne_86 : decode cX12_drawsOne 86 = .ok (.iload_n 2, 1) := by decide +kernel
theorem d_X12_drawsOne_87 : decode cX12_drawsOne 87 = .ok (.invokevirtual 294, 3) := by decide +kernel
theorem d_X12_drawsOne_90 : decode cX12_drawsOne 90 = .ok (.iconst 1, 1) := by decide +kernel
theorem d_X12_drawsOne_91 : decode cX12_drawsOne 91 = .ok (.ireturn, 1) := by decide +kernel
theorem d_X12_drawsOne_92 : decode cX12_drawsOne 92 = .ok (.aload_n 0, 1) := by decide +kernel
theorem d_X12_drawsOne_93 : decode cX12_drawsOne 93 = .ok (.aload_n 0, 1) := by decide +kernel
theorem d_X12_drawsOne_94 : decode cX12_drawsOne 94 = .ok (.invokevirtual 197, 3) := by decide +kernel
theorem d_X12_drawsOne_97 : decode cX12_drawsOne 97 = .ok (.invokevirtual 379, 3) := by decide +kernel
theorem d_X12_drawsOne_100 : decode cX12_drawsOne 100 = .ok (.istore_n 3, 1) := by decide +kernel
theorem d_X12_drawsOne_101 : decode cX12_drawsOne 101 = .ok (.aload_n 0, 1) := by decide +kernel
theorem d_X12_drawsOne_102 : decode cX12_drawsOne 102 = .ok (.iload_n 2, 1) := by decide +kernel
theorem d_X12_drawsOne_103 : decode cX12_drawsOne 103 = .ok (.iload_n 3, 1) := by decide +kernel
theorem d_X12_drawsOne_104 : decode cX12_drawsOne 104 = .ok (.invokevirtual 242, 3) := by decide +kernel
theorem d_X12_drawsOne_107 : decode cX12_drawsOne 107 = .ok (.ifCond .eq 5, 3) := by decide +kernel
theorem d_X12_drawsOne_110 : decode cX12_drawsOne 110 = .ok (.iconst 0, 1) := by decide +kernel
theorem d_X12_drawsOne_111 : decode cX12_drawsOne 111 = .ok (.ireturn, 1) := by decide +kernel
theorem d_X12_drawsOne_112 : decode cX12_drawsOne 112 = .ok (.aload_n 0, 1) := by decide +kernel
theorem d_X12_drawsOne_113 : decode cX12_drawsOne 113 = .ok (.getfield 99, 3) := by decide +kernel
theorem d_X12_drawsOne_116 : decode cX12_drawsOne 116 = .ok (.bipush 75, 2) := by decide +kernel
theorem d_X12_drawsOne_118 : decode cX12_drawsOne 118 = .ok (.iload_n 2, 1) := by decide +kernel
theorem d_X12_drawsOne_119 : decode cX12_drawsOne 119 = .ok (.iadd, 1) := by decide +kernel
theorem d_X12_drawsOne_120 : decode cX12_drawsOne 120 = .ok (.iload_n 3, 1) := by decide +kernel
theorem d_X12_drawsOne_121 : decode cX12_drawsOne 121 = .ok (.iastore, 1) := by decide +kernel
theorem d_X12_drawsOne_122 : decode cX12_drawsOne 122 = .ok (.iconst 1, 1) := by decide +kernel
theorem d_X12_drawsOne_123 : decode cX12_drawsOne 123 = .ok (.ireturn, 1) := by decide +kernel
theorem d_X12_drawsOne_124 : decode cX12_drawsOne 124 = .ok (.aload_n 0, 1) := by decide +kernel
theorem d_X12_drawsOne_125 : decode cX12_drawsOne 125 = .ok (.iload_n 2, 1) := by decide +kernel
theorem d_X12_drawsOne_126 : decode cX12_drawsOne 126 = .ok (.aload_n 0, 1) := by decide +kernel
theorem d_X12_drawsOne_127 : decode cX12_drawsOne 127 = .ok (.aload_n 0, 1) := by decide +kernel
theorem d_X12_drawsOne_128 : decode cX12_drawsOne 128 = .ok (.invokevirtual 197, 3) := by decide +kernel
theorem d_X12_drawsOne_131 : decode cX12_drawsOne 131 = .ok (.invokevirtual 379, 3) := by decide +kernel
theorem d_X12_drawsOne_134 : decode cX12_drawsOne 134 = .ok (.invokevirtual 287, 3) := by decide +kernel
theorem d_X12_drawsOne_137 : decode cX12_drawsOne 137 = .ok (.istore_n 3, 1) := by decide +kernel
theorem d_X12_drawsOne_138 : decode cX12_drawsOne 138 = .ok (.iload_n 3, 1) := by decide +kernel
theorem d_X12_drawsOne_139 : decode cX12_drawsOne 139 = .ok (.iconst (-1), 1) := by decide +kernel
theorem d_X12_drawsOne_140 : decode cX12_drawsOne 140 = .ok (.if_icmp .ne 5, 3) := by decide +kernel
theorem d_X12_drawsOne_143 : decode cX12_drawsOne 143 = .ok (.iconst 0, 1) := by decide +kernel
theorem d_X12_drawsOne_144 : decode cX12_drawsOne 144 = .ok (.ireturn, 1) := by decide +kernel
theorem d_X12_drawsOne_145 : decode cX12_drawsOne 145 = .ok (.aload_n 0, 1) := by decide +kernel
theorem d_X12_drawsOne_146 : decode cX12_drawsOne 146 = .ok (.iload_n 2, 1) := by decide +kernel
theorem d_X12_drawsOne_147 : decode cX12_drawsOne 147 = .ok (.iload_n 3, 1) := by decide +kernel
theorem d_X12_drawsOne_148 : decode cX12_drawsOne 148 = .ok (.invokevirtual 290, 3) := by decide +kernel
theorem d_X12_drawsOne_151 : decode cX12_drawsOne 151 = .ok (.iconst 1, 1) := by decide +kernel
theorem d_X12_drawsOne_152 : decode cX12_drawsOne 152 = .ok (.ireturn, 1) := by decide +kernel
theorem d_X12_drawn_0 : decode cX12_drawn 0 = .ok (.aload_n 0, 1) := by decide +kernel
theorem d_X12_drawn_1 : decode cX12_drawn 1 = .ok (.iconst 0, 1) := by decide +kernel
theorem d_X12_drawn_2 : decode cX12_drawn 2 = .ok (.putfield 1, 3) := by decide +kernel
theorem d_X12_drawn_5 : decode cX12_drawn 5 = .ok (.iload_n 1, 1) := by decide +kernel
theorem d_X12_drawn_6 : decode cX12_drawn 6 = .ok (.iconst 1, 1) := by decide +kernel
theorem d_X12_drawn_7 : decode cX12_drawn 7 = .ok (.bipush 60, 2) := by decide +kernel
theorem d_X12_drawn_9 : decode cX12_drawn 9 = .ok (.invokestatic 83, 3) := by decide +kernel
theorem d_X12_drawn_12 : decode cX12_drawn 12 = .ok (.ifCond .ne 5, 3) := by decide +kernel
theorem d_X12_drawn_15 : decode cX12_drawn 15 = .ok (.iconst (-1), 1) := by decide +kernel
theorem d_X12_drawn_16 : decode cX12_drawn 16 = .ok (.ireturn, 1) := by decide +kernel
theorem d_X12_drawn_17 : decode cX12_drawn 17 = .ok (.aload_n 0, 1) := by decide +kernel
theorem d_X12_drawn_18 : decode cX12_drawn 18 = .ok (.getfield 99, 3) := by decide +kernel
theorem d_X12_drawn_21 : decode cX12_drawn 21 = .ok (.iconst 0, 1) := by decide +kernel
theorem d_X12_drawn_22 : decode cX12_drawn 22 = .ok (.aload_n 0, 1) := by decide +kernel
theorem d_X12_drawn_23 : decode cX12_drawn 23 = .ok (.getfield 111, 3) := by decide +kernel
theorem d_X12_drawn_26 : decode cX12_drawn 26 = .ok (.iconst 0, 1) := by decide +kernel
theorem d_X12_drawn_27 : decode cX12_drawn 27 = .ok (.invokestatic 184, 3) := by decide +kernel
theorem d_X12_drawn_30 : decode cX12_drawn 30 = .ok (.aload_n 0, 1) := by decide +kernel
theorem d_X12_drawn_31 : decode cX12_drawn 31 = .ok (.iload_n 2, 1) := by decide +kernel
theorem d_X12_drawn_32 : decode cX12_drawn 32 = .ok (.putfield 375, 3) := by decide +kernel
theorem d_X12_drawn_35 : decode cX12_drawn 35 = .ok (.iconst 0, 1) := by decide +kernel
theorem d_X12_drawn_36 : decode cX12_drawn 36 = .ok (.istore_n 3, 1) := by decide +kernel
theorem d_X12_drawn_37 : decode cX12_drawn 37 = .ok (.iconst 0, 1) := by decide +kernel
theorem d_X12_drawn_38 : decode cX12_drawn 38 = .ok (.istore 4, 2) := by decide +kernel
theorem d_X12_drawn_40 : decode cX12_drawn 40 = .ok (.iload 4, 2) := by decide +kernel
theorem d_X12_drawn_42 : decode cX12_drawn 42 = .ok (.iload_n 1, 1) := by decide +kernel
theorem d_X12_drawn_43 : decode cX12_drawn 43 = .ok (.if_icmp .ge 26, 3) := by decide +kernel
theorem d_X12_drawn_46 : decode cX12_drawn 46 = .ok (.aload_n 0, 1) := by decide +kernel
theorem d_X12_drawn_47 : decode cX12_drawn 47 = .ok (.invokevirtual 194, 3) := by decide +kernel
theorem d_X12_drawn_50 : decode cX12_drawn 50 = .ok (.ifCond .le 19, 3) := by decide +kernel
theorem d_X12_drawn_53 : decode cX12_drawn 53 = .ok (.aload_n 0, 1) := by decide +kernel
theorem d_X12_drawn_54 : decode cX12_drawn 54 = .ok (.invokevirtual 382, 3) := by decide +kernel
theorem d_X12_drawn_57 : decode cX12_drawn 57 = .ok (.ifCond .eq 6, 3) := by decide +kernel
theorem d_X12_drawn_60 : decode cX12_drawn 60 = .ok (.iinc 3 1, 3) := by decide +kernel
theorem d_X12_drawn_63 : decode cX12_drawn 63 = .ok (.iinc 4 1, 3) := by decide +kernel
theorem d_X12_drawn_66 : decode cX12_drawn 66 = .ok (.goto (-26), 3) := by decide +kernel
theorem d_X12_drawn_69 : decode cX12_drawn 69 = .ok (.iload_n 3, 1) := by decide +kernel
theorem d_X12_drawn_70 : decode cX12_drawn 70 = .ok (.ifCond .le 7, 3) := by decide +kernel
theorem d_X12_drawn_73 : decode cX12_drawn 73 = .ok (.aload_n 0, 1) := by decide +kernel
theorem d_X12_drawn_74 : decode cX12_drawn 74 = .ok (.invokevirtual 284, 3) := by decide +kernel
theorem d_X12_drawn_77 : decode cX12_drawn 77 = .ok (.iload_n 3, 1) := by decide +kernel
theorem d_X12_drawn_78 : decode cX12_drawn 78 = .ok (.ireturn, 1) := by decide +kernel
theorem d_X12_image_0 : decode cX12_image 0 = .ok (.aload_n 0, 1) := by decide +kernel
theorem d_X12_image_1 : decode cX12_image 1 = .ok (.iconst 0, 1) := by decide +kernel
theorem d_X12_image_2 : decode cX12_image 2 = .ok (.putfield 1, 3) := by decide +kernel
theorem d_X12_image_5 : decode cX12_image 5 = .ok (.iload_n 1, 1) := by decide +kernel
theorem d_X12_image_6 : decode cX12_image 6 = .ok (.iconst 0, 1) := by decide +kernel
theorem d_X12_image_7 : decode cX12_image 7 = .ok (.iconst 1, 1) := by decide +kernel
theorem d_X12_image_8 : decode cX12_image 8 = .ok (.invokestatic 83, 3) := by decide +kernel
theorem d_X12_image_11 : decode cX12_image 11 = .ok (.ifCond .ne 5, 3) := by decide +kernel
theorem d_X12_image_14 : decode cX12_image 14 = .ok (.iconst 0, 1) := by decide +kernel
theorem d_X12_image_15 : decode cX12_image 15 = .ok (.ireturn, 1) := by decide +kernel
theorem d_X12_image_16 : decode cX12_image 16 = .ok (.aload_n 0, 1) := by decide +kernel
theorem d_X12_image_17 : decode cX12_image 17 = .ok (.getfield 99, 3) := by decide +kernel
theorem d_X12_image_20 : decode cX12_image 20 = .ok (.iconst 0, 1) := by decide +kernel
theorem d_X12_image_21 : decode cX12_image 21 = .ok (.aload_n 0, 1) := by decide +kernel
theorem d_X12_image_22 : decode cX12_image 22 = .ok (.getfield 105, 3) := by decide +kernel
theorem d_X12_image_25 : decode cX12_image 25 = .ok (.sipush 147, 3) := by decide +kernel
theorem d_X12_image_28 : decode cX12_image 28 = .ok (.iload_n 1, 1) := by decide +kernel
theorem d_X12_image_29 : decode cX12_image 29 = .ok (.imul, 1) := by decide +kernel
theorem d_X12_image_30 : decode cX12_image 30 = .ok (.invokestatic 184, 3) := by decide +kernel
theorem d_X12_image_33 : decode cX12_image 33 = .ok (.aload_n 0, 1) := by decide +kernel
theorem d_X12_image_34 : decode cX12_image 34 = .ok (.getfield 121, 3) := by decide +kernel
theorem d_X12_image_37 : decode cX12_image 37 = .ok (.iload_n 1, 1) := by decide +kernel
theorem d_X12_image_38 : decode cX12_image 38 = .ok (.iconst 1, 1) := by decide +kernel
theorem d_X12_image_39 : decode cX12_image 39 = .ok (.bastore, 1) := by decide +kernel
theorem d_X12_image_40 : decode cX12_image 40 = .ok (.iconst 1, 1) := by decide +kernel
theorem d_X12_image_41 : decode cX12_image 41 = .ok (.ireturn, 1) := by decide +kernel
theorem d_X12_restore_0 : decode cX12_restore 0 = .ok (.aload_n 0, 1) := by decide +kernel
theorem d_X12_restore_1 : decode cX12_restore 1 = .ok (.iconst 0, 1) := by decide +kernel
theorem d_X12_restore_2 : decode cX12_restore 2 = .ok (.putfield 1, 3) := by decide +kernel
theorem d_X12_restore_5 : decode cX12_restore 5 = .ok (.iload_n 1, 1) := by decide +kernel
theorem d_X12_restore_6 : decode cX12_restore 6 = .ok (.iconst 0, 1) := by decide +kernel
theorem d_X12_restore_7 : decode cX12_restore 7 = .ok (.iconst 1, 1) := by decide +kernel
theorem d_X12_restore_8 : decode cX12_restore 8 = .ok (.invokestatic 83, 3) := by decide +kernel
theorem d_X12_restore_11 : decode cX12_restore 11 = .ok (.ifCond .eq 12, 3) := by decide +kernel
theorem d_X12_restore_14 : decode cX12_restore 14 = .ok (.aload_n 0, 1) := by decide +kernel
theorem d_X12_restore_15 : decode cX12_restore 15 = .ok (.getfield 121, 3) := by decide +kernel
theorem d_X12_restore_18 : decode cX12_restore 18 = .ok (.iload_n 1, 1) := by decide +kernel
theorem d_X12_restore_19 : decode cX12_restore 19 = .ok (.baload, 1) := by decide +kernel
theorem d_X12_restore_20 : decode cX12_restore 20 = .ok (.ifCond .ne 5, 3) := by decide +kernel
theorem d_X12_restore_23 : decode cX12_restore 23 = .ok (.iconst 0, 1) := by decide +kernel
theorem d_X12_restore_24 : decode cX12_restore 24 = .ok (.ireturn, 1) := by decide +kernel
theorem d_X12_restore_25 : decode cX12_restore 25 = .ok (.aload_n 0, 1) := by decide +kernel
theorem d_X12_restore_26 : decode cX12_restore 26 = .ok (.getfield 105, 3) := by decide +kernel
theorem d_X12_restore_29 : decode cX12_restore 29 = .ok (.sipush 147, 3) := by decide +kernel
theorem d_X12_restore_32 : decode cX12_restore 32 = .ok (.iload_n 1, 1) := by decide +kernel
theorem d_X12_restore_33 : decode cX12_restore 33 = .ok (.imul, 1) := by decide +kernel
theorem d_X12_restore_34 : decode cX12_restore 34 = .ok (.aload_n 0, 1) := by decide +kernel
theorem d_X12_restore_35 : decode cX12_restore 35 = .ok (.getfield 99, 3) := by decide +kernel
theorem d_X12_restore_38 : decode cX12_restore 38 = .ok (.iconst 0, 1) := by decide +kernel
theorem d_X12_restore_39 : decode cX12_restore 39 = .ok (.invokestatic 184, 3) := by decide +kernel
theorem d_X12_restore_42 : decode cX12_restore 42 = .ok (.aload_n 0, 1) := by decide +kernel
theorem d_X12_restore_43 : decode cX12_restore 43 = .ok (.iconst 0, 1) := by decide +kernel
theorem d_X12_restore_44 : decode cX12_restore 44 = .ok (.putfield 188, 3) := by decide +kernel
theorem d_X12_restore_47 : decode cX12_restore 47 = .ok (.iconst 1, 1) := by decide +kernel
theorem d_X12_restore_48 : decode cX12_restore 48 = .ok (.ireturn, 1) := by decide +kernel
