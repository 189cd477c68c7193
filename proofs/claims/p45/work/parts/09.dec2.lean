-- needs: 08.links0
theorem d_X7_findWeakest_1 : decode cX7_findWeakest 1 = .ok (.getfield 22, 3) := by decide +kernel
theorem d_X7_findWeakest_4 : decode cX7_findWeakest 4 = .ok (.invokevirtual 33, 3) := by decide +kernel
theorem d_X7_findWeakest_7 : decode cX7_findWeakest 7 = .ok (.aload_n 0, 1) := by decide +kernel
theorem d_X7_findWeakest_8 : decode cX7_findWeakest 8 = .ok (.getfield 18, 3) := by decide +kernel
theorem d_X7_findWeakest_11 : decode cX7_findWeakest 11 = .ok (.invokevirtual 38, 3) := by decide +kernel
theorem d_X7_findWeakest_14 : decode cX7_findWeakest 14 = .ok (.istore_n 1, 1) := by decide +kernel
theorem d_X7_findWeakest_15 : decode cX7_findWeakest 15 = .ok (.aload_n 0, 1) := by decide +kernel
theorem d_X7_findWeakest_16 : decode cX7_findWeakest 16 = .ok (.getfield 22, 3) := by decide +kernel
theorem d_X7_findWeakest_19 : decode cX7_findWeakest 19 = .ok (.iload_n 1, 1) := by decide +kernel
theorem d_X7_findWeakest_20 : decode cX7_findWeakest 20 = .ok (.invokevirtual 44, 3) := by decide +kernel
theorem d_X7_findWeakest_23 : decode cX7_findWeakest 23 = .ok (.istore_n 2, 1) := by decide +kernel
theorem d_X7_findWeakest_24 : decode cX7_findWeakest 24 = .ok (.iconst 2, 1) := by decide +kernel
theorem d_X7_findWeakest_25 : decode cX7_findWeakest 25 = .ok (.istore_n 3, 1) := by decide +kernel
theorem d_X7_findWeakest_26 : decode cX7_findWeakest 26 = .ok (.iload_n 3, 1) := by decide +kernel
theorem d_X7_findWeakest_27 : decode cX7_findWeakest 27 = .ok (.iload_n 1, 1) := by decide +kernel
theorem d_X7_findWeakest_28 : decode cX7_findWeakest 28 = .ok (.if_icmp .gt 23, 3) := by decide +kernel
theorem d_X7_findWeakest_31 : decode cX7_findWeakest 31 = .ok (.aload_n 0, 1) := by decide +kernel
theorem d_X7_findWeakest_32 : decode cX7_findWeakest 32 = .ok (.getfield 9, 3) := by decide +kernel
theorem d_X7_findWeakest_35 : decode cX7_findWeakest 35 = .ok (.iload_n 3, 1) := by decide +kernel
theorem d_X7_findWeakest_36 : decode cX7_findWeakest 36 = .ok (.aload_n 0, 1) := by decide +kernel
theorem d_X7_findWeakest_37 : decode cX7_findWeakest 37 = .ok (.getfield 22, 3) := by decide +kernel
theorem d_X7_findWeakest_40 : decode cX7_findWeakest 40 = .ok (.iload_n 3, 1) := by decide +kernel
theorem d_X7_findWeakest_41 : decode cX7_findWeakest 41 = .ok (.invokevirtual 44, 3) := by decide +kernel
theorem d_X7_findWeakest_44 : decode cX7_findWeakest 44 = .ok (.iastore, 1) := by decide +kernel
theorem d_X7_findWeakest_45 : decode cX7_findWeakest 45 = .ok (.iinc 3 2, 3) := by decide +kernel
theorem d_X7_findWeakest_48 : decode cX7_findWeakest 48 = .ok (.goto (-22), 3) := by decide +kernel
theorem d_X7_findWeakest_51 : decode cX7_findWeakest 51 = .ok (.aload_n 0, 1) := by decide +kernel
theorem d_X7_findWeakest_52 : decode cX7_findWeakest 52 = .ok (.iconst 0, 1) := by decide +kernel
theorem d_X7_findWeakest_53 : decode cX7_findWeakest 53 = .ok (.putfield 30, 3) := by decide +kernel
theorem d_X7_findWeakest_56 : decode cX7_findWeakest 56 = .ok (.iconst 2, 1) := by decide +kernel
theorem d_X7_findWeakest_57 : decode cX7_findWeakest 57 = .ok (.istore_n 3, 1) := by decide +kernel
theorem d_X7_findWeakest_58 : decode cX7_findWeakest 58 = .ok (.iload_n 3, 1) := by decide +kernel
theorem d_X7_findWeakest_59 : decode cX7_findWeakest 59 = .ok (.aload_n 0, 1) := by decide +kernel
theorem d_X7_findWeakest_60 : decode cX7_findWeakest 60 = .ok (.getfield 18, 3) := by decide +kernel
theorem d_X7_findWeakest_63 : decode cX7_findWeakest 63 = .ok (.getfield 48, 3) := by decide +kernel
theorem d_X7_findWeakest_66 : decode cX7_findWeakest 66 = .ok (.if_icmp .gt 61, 3) := by decide +kernel
theorem d_X7_findWeakest_69 : decode cX7_findWeakest 69 = .ok (.iload_n 2, 1) := by decide +kernel
theorem d_X7_findWeakest_70 : decode cX7_findWeakest 70 = .ok (.aload_n 0, 1) := by decide +kernel
theorem d_X7_findWeakest_71 : decode cX7_findWeakest 71 = .ok (.iload_n 1, 1) := by decide +kernel
theorem d_X7_findWeakest_72 : decode cX7_findWeakest 72 = .ok (.invokevirtual 51, 3) := by decide +kernel
theorem d_X7_findWeakest_75 : decode cX7_findWeakest 75 = .ok (.isub, 1) := by decide +kernel
theorem d_X7_findWeakest_76 : decode cX7_findWeakest 76 = .ok (.istore 4, 2) := by decide +kernel
theorem d_X7_findWeakest_78 : decode cX7_findWeakest 78 = .ok (.aload_n 0, 1) := by decide +kernel
theorem d_X7_findWeakest_79 : decode cX7_findWeakest 79 = .ok (.getfield 30, 3) := by decide +kernel
theorem d_X7_findWeakest_82 : decode cX7_findWeakest 82 = .ok (.ifCond .eq 23, 3) := by decide +kernel
theorem d_X7_findWeakest_85 : decode cX7_findWeakest 85 = .ok (.iload 4, 2) := by decide +kernel
theorem d_X7_findWeakest_87 : decode cX7_findWeakest 87 = .ok (.aload_n 0, 1) := by decide +kernel
theorem d_X7_findWeakest_88 : decode cX7_findWeakest 88 = .ok (.getfield 30, 3) := by decide +kernel
theorem d_X7_findWeakest_91 : decode cX7_findWeakest 91 = .ok (.iconst 1, 1) := by decide +kernel
theorem d_X7_findWeakest_92 : decode cX7_findWeakest 92 = .ok (.isub, 1) := by decide +kernel
theorem d_X7_findWeakest_93 : decode cX7_findWeakest 93 = .ok (.imul, 1) := by decide +kernel
theorem d_X7_findWeakest_94 : decode cX7_findWeakest 94 = .ok (.aload_n 0, 1) := by decide +kernel
theorem d_X7_findWeakest_95 : decode cX7_findWeakest 95 = .ok (.getfield 26, 3) := by decide +kernel
theorem d_X7_findWeakest_98 : decode cX7_findWeakest 98 = .ok (.iload_n 3, 1) := by decide +kernel
theorem d_X7_findWeakest_99 : decode cX7_findWeakest 99 = .ok (.iconst 1, 1) := by decide +kernel
theorem d_X7_findWeakest_100 : decode cX7_findWeakest 100 = .ok (.isub, 1) := by decide +kernel
theorem d_X7_findWeakest_101 : decode cX7_findWeakest 101 = .ok (.imul, 1) := by decide +kernel
theorem d_X7_findWeakest_102 : decode cX7_findWeakest 102 = .ok (.if_icmp .ge 14, 3) := by decide +kernel
theorem d_X7_findWeakest_105 : decode cX7_findWeakest 105 = .ok (.aload_n 0, 1) := by decide +kernel
theorem d_X7_findWeakest_106 : decode cX7_findWeakest 106 = .ok (.iload 4, 2) := by decide +kernel
theorem d_X7_findWeakest_108 : decode cX7_findWeakest 108 = .ok (.putfield 26, 3) := by decide +kernel
theorem d_X7_findWeakest_111 : decode cX7_findWeakest 111 = .ok (.aload_n 0, 1) := by decide +kernel
theorem d_X7_findWeakest_112 : decode cX7_findWeakest 112 = .ok (.iload_n 3, 1) := by decide +kernel
theorem d_X7_findWeakest_113 : decode cX7_findWeakest 113 = .ok (.putfield 30, 3) := by decide +kernel
theorem d_X7_findWeakest_116 : decode cX7_findWeakest 116 = .ok (.aload_n 0, 1) := by decide +kernel
theorem d_X7_findWeakest_117 : decode cX7_findWeakest 117 = .ok (.iload_n 1, 1) := by decide +kernel
theorem d_X7_findWeakest_118 : decode cX7_findWeakest 118 = .ok (.invokevirtual 54, 3) := by decide +kernel
theorem d_X7_findWeakest_121 : decode cX7_findWeakest 121 = .ok (.iinc 3 1, 3) := by decide +kernel
theorem d_X7_findWeakest_124 : decode cX7_findWeakest 124 = .ok (.goto (-66), 3) := by decide +kernel
theorem d_X7_findWeakest_127 : decode cX7_findWeakest 127 = .ok (.return_, 1) := by decide +kernel
theorem d_X7_above_0 : decode cX7_above 0 = .ok (.aload_n 0, 1) := by decide +kernel
theorem d_X7_above_1 : decode cX7_above 1 = .ok (.getfield 26, 3) := by decide +kernel
theorem d_X7_above_4 : decode cX7_above 4 = .ok (.ireturn, 1) := by decide +kernel
theorem d_X7_pieces_0 : decode cX7_pieces 0 = .ok (.aload_n 0, 1) := by decide +kernel
theorem d_X7_pieces_1 : decode cX7_pieces 1 = .ok (.getfield 30, 3) := by decide +kernel
theorem d_X7_pieces_4 : decode cX7_pieces 4 = .ok (.ireturn, 1) := by decide +kernel
theorem d_X11_strength_0 : decode cX11_strength 0 = .ok (.aload_n 0, 1) := by decide +kernel
theorem d_X11_strength_1 : decode cX11_strength 1 = .ok (.getfield 10, 3) := by decide +kernel
theorem d_X11_strength_4 : decode cX11_strength 4 = .ok (.getfield 184, 3) := by decide +kernel
theorem d_X11_strength_7 : decode cX11_strength 7 = .ok (.iconst 2, 1) := by decide +kernel
theorem d_X11_strength_8 : decode cX11_strength 8 = .ok (.if_icmp .lt 12, 3) := by decide +kernel
theorem d_X11_strength_11 : decode cX11_strength 11 = .ok (.iload_n 1, 1) := by decide +kernel
theorem d_X11_strength_12 : decode cX11_strength 12 = .ok (.ifCond .lt 8, 3) := by decide +kernel
theorem d_X11_strength_15 : decode cX11_strength 15 = .ok (.iload_n 1, 1) := by decide +kernel
theorem d_X11_strength_16 : decode cX11_strength 16 = .ok (.iconst 2, 1) := by decide +kernel
theorem d_X11_strength_17 : decode cX11_strength 17 = .ok (.if_icmp .le 5, 3) := by decide +kernel
theorem d_X11_strength_20 : decode cX11_strength 20 = .ok (.iconst (-1), 1) := by decide +kernel
theorem d_X11_strength_21 : decode cX11_strength 21 = .ok (.ireturn, 1) := by decide +kernel
theorem d_X11_strength_22 : decode cX11_strength 22 = .ok (.aload_n 0, 1) := by decide +kernel
theorem d_X11_strength_23 : decode cX11_strength 23 = .ok (.getfield 67, 3) := by decide +kernel
theorem d_X11_strength_26 : decode cX11_strength 26 = .ok (.invokevirtual 289, 3) := by decide +kernel
theorem d_X11_strength_29 : decode cX11_strength 29 = .ok (.iload_n 1, 1) := by decide +kernel
theorem d_X11_strength_30 : decode cX11_strength 30 = .ok (.iconst 2, 1) := by decide +kernel
theorem d_X11_strength_31 : decode cX11_strength 31 = .ok (.if_icmp .ne 11, 3) := by decide +kernel
theorem d_X11_strength_34 : decode cX11_strength 34 = .ok (.aload_n 0, 1) := by decide +kernel
theorem d_X11_strength_35 : decode cX11_strength 35 = .ok (.getfield 67, 3) := by decide +kernel
theorem d_X11_strength_38 : decode cX11_strength 38 = .ok (.invokevirtual 292, 3) := by decide +kernel
theorem d_X11_strength_41 : decode cX11_strength 41 = .ok (.ireturn, 1) := by decide +kernel
theorem d_X11_strength_42 : decode cX11_strength 42 = .ok (.aload_n 0, 1) := by decide +kernel
theorem d_X11_strength_43 : decode cX11_strength 43 = .ok (.getfield 67, 3) := by decide +kernel
theorem d_X11_strength_46 : decode cX11_strength 46 = .ok (.invokevirtual 294, 3) := by decide +kernel
theorem d_X11_strength_49 : decode cX11_strength 49 = .ok (.aload_n 0, 1) := by decide +kernel
theorem d_X11_strength_50 : decode cX11_strength 50 = .ok (.getfield 67, 3) := by decide +kernel
theorem d_X11_strength_53 : decode cX11_strength 53 = .ok (.invokevirtual 292, 3) := by decide +kernel
theorem d_X11_strength_56 : decode cX11_strength 56 = .ok (.iconst 1, 1) := by decide +kernel
theorem d_X11_strength_57 : decode cX11_strength 57 = .ok (.isub, 1) := by decide +kernel
theorem d_X11_strength_58 : decode cX11_strength 58 = .ok (.iload_n 1, 1) := by decide +kernel
theorem d_X11_strength_59 : decode cX11_strength 59 = .ok (.invokestatic 282, 3) := by decide +kernel
theorem d_X11_strength_62 : decode cX11_strength 62 = .ok (.ireturn, 1) := by decide +kernel
theorem d_X11_line_0 : decode cX11_line 0 = .ok (.aload_n 0, 1) := by decide +kernel
theorem d_X11_line_1 : decode cX11_line 1 = .ok (.getfield 10, 3) := by decide +kernel
theorem d_X11_line_4 : decode cX11_line 4 = .ok (.iload_n 1, 1) := by decide +kernel
theorem d_X11_line_5 : decode cX11_line 5 = .ok (.invokevirtual 146, 3) := by decide +kernel
theorem d_X11_line_8 : decode cX11_line 8 = .ok (.ifCond .eq 12, 3) := by decide +kernel
theorem d_X11_line_11 : decode cX11_line 11 = .ok (.iload_n 2, 1) := by decide +kernel
theorem d_X11_line_12 : decode cX11_line 12 = .ok (.ifCond .lt 8, 3) := by decide +kernel
theorem d_X11_line_15 : decode cX11_line 15 = .ok (.iload_n 2, 1) := by decide +kernel
theorem d_X11_line_16 : decode cX11_line 16 = .ok (.iconst 4, 1) := by decide +kernel
theorem d_X11_line_17 : decode cX11_line 17 = .ok (.if_icmp .le 13, 3) := by decide +kernel
theorem d_X11_line_30 : decode cX11_line 30 = .ok (.iload_n 2, 1) := by decide +kernel
theorem d_X11_line_31 : decode cX11_line 31 = .ok (.tableswitch 69 0 3 #[29, 39, 49, 59], 29) := by decide +kernel
theorem d_X11_line_60 : decode cX11_line 60 = .ok (.aload_n 0, 1) := by decide +kernel
theorem d_X11_line_61 : decode cX11_line 61 = .ok (.getfield 10, 3) := by decide +kernel
theorem d_X11_line_64 : decode cX11_line 64 = .ok (.getfield 157, 3) := by decide +kernel
theorem d_X11_line_67 : decode cX11_line 67 = .ok (.iload_n 1, 1) := by decide +kernel
theorem d_X11_line_68 : decode cX11_line 68 = .ok (.iaload, 1) := by decide +kernel
theorem d_X11_line_69 : decode cX11_line 69 = .ok (.ireturn, 1) := by decide +kernel
theorem d_X11_line_70 : decode cX11_line 70 = .ok (.aload_n 0, 1) := by decide +kernel
theorem d_X11_line_71 : decode cX11_line 71 = .ok (.getfield 10, 3) := by decide +kernel
theorem d_X11_line_74 : decode cX11_line 74 = .ok (.getfield 160, 3) := by decide +kernel
theorem d_X11_line_77 : decode cX11_line 77 = .ok (.iload_n 1, 1) := by decide +kernel
theorem d_X11_line_78 : decode cX11_line 78 = .ok (.iaload, 1) := by decide +kernel
theorem d_X11_line_79 : decode cX11_line 79 = .ok (.ireturn, 1) := by decide +kernel
theorem d_X11_line_80 : decode cX11_line 80 = .ok (.aload_n 0, 1) := by decide +kernel
theorem d_X11_line_81 : decode cX11_line 81 = .ok (.getfield 10, 3) := by decide +kernel
theorem d_X11_line_84 : decode cX11_line 84 = .ok (.getfield 163, 3) := by decide +kernel
theorem d_X11_line_87 : decode cX11_line 87 = .ok (.iload_n 1, 1) := by decide +kernel
theorem d_X11_line_88 : decode cX11_line 88 = .ok (.iaload, 1) := by decide +kernel
theorem d_X11_line_89 : decode cX11_line 89 = .ok (.ireturn, 1) := by decide +kernel
theorem d_X11_line_90 : decode cX11_line 90 = .ok (.aload_n 0, 1) := by decide +kernel
theorem d_X11_line_91 : decode cX11_line 91 = .ok (.getfield 10, 3) := by decide +kernel
theorem d_X11_line_94 : decode cX11_line 94 = .ok (.getfield 139, 3) := by decide +kernel
theorem d_X11_line_97 : decode cX11_line 97 = .ok (.iload_n 1, 1) := by decide +kernel
theorem d_X11_line_98 : decode cX11_line 98 = .ok (.iaload, 1) := by decide +kernel
theorem d_X11_line_99 : decode cX11_line 99 = .ok (.ireturn, 1) := by decide +kernel
theorem d_X11_line_100 : decode cX11_line 100 = .ok (.aload_n 0, 1) := by decide +kernel
theorem d_X11_line_101 : decode cX11_line 101 = .ok (.getfield 10, 3) := by decide +kernel
theorem d_X11_line_104 : decode cX11_line 104 = .ok (.iload_n 1, 1) := by decide +kernel
theorem d_X11_line_105 : decode cX11_line 105 = .ok (.invokevirtual 166, 3) := by decide +kernel
theorem d_X11_line_108 : decode cX11_line 108 = .ok (.ifCond .eq 7, 3) := by decide +kernel
theorem d_X11_line_111 : decode cX11_line 111 = .ok (.iconst 0, 1) := by decide +kernel
theorem d_X11_line_112 : decode cX11_line 112 = .ok (.goto 4, 3) := by decide +kernel
theorem d_X11_line_115 : decode cX11_line 115 = .ok (.iconst 1, 1) := by decide +kernel
theorem d_X11_line_116 : decode cX11_line 116 = .ok (.ireturn, 1) := by decide +kernel
theorem d_X11_line_20 : decode cX11_line 20 = .ok (.new 150, 3) := by decide +kernel
theorem d_X11_line_23 : decode cX11_line 23 = .ok (.dup, 1) := by decide +kernel
theorem d_X11_line_24 : decode cX11_line 24 = .ok (.ldc 152, 2) := by decide +kernel
theorem d_X11_line_26 : decode cX11_line 26 = .ok (.invokespecial 154, 3) := by decide +kernel
theorem d_X11_line_29 : decode cX11_line 29 = .ok (.athrow, 1) := by decide +kernel
theorem d_L_draw_0 : decode cL_draw 0 = .ok (.aload_n 0, 1) := by decide +kernel
theorem d_L_draw_1 : decode cL_draw 1 = .ok (.iconst 0, 1) := by decide +kernel
theorem d_L_draw_2 : decode cL_draw 2 = .ok (.aload_n 0, 1) := by decide +kernel
theorem d_L_draw_3 : decode cL_draw 3 = .ok (.iconst 0, 1) := by decide +kernel
theorem d_L_draw_4 : decode cL_draw 4 = .ok (.iaload, 1) := by decide +kernel
theorem d_L_draw_5 : decode cL_draw 5 = .ok (.ldc 42, 2) := by decide +kernel
theorem d_L_draw_7 : decode cL_draw 7 = .ok (.imul, 1) := by decide +kernel
theorem d_L_draw_8 : decode cL_draw 8 = .ok (.sipush 12345, 3) := by decide +kernel
theorem d_L_draw_11 : decode cL_draw 11 = .ok (.iadd, 1) := by decide +kernel
theorem d_L_draw_12 : decode cL_draw 12 = .ok (.iastore, 1) := by decide +kernel
theorem d_L_draw_13 : decode cL_draw 13 = .ok (.aload_n 0, 1) := by decide +kernel
theorem d_L_draw_14 : decode cL_draw 14 = .ok (.iconst 0, 1) := by decide +kernel
theorem d_L_draw_15 : decode cL_draw 15 = .ok (.iaload, 1) := by decide +kernel
theorem d_L_draw_16 : decode cL_draw 16 = .ok (.bipush 8, 2) := by decide +kernel
theorem d_L_draw_18 : decode cL_draw 18 = .ok (.iushr, 1) := by decide +kernel
theorem d_L_draw_19 : decode cL_draw 19 = .ok (.iload_n 1, 1) := by decide +kernel
theorem d_L_draw_20 : decode cL_draw 20 = .ok (.irem, 1) := by decide +kernel
theorem d_L_draw_21 : decode cL_draw 21 = .ok (.ireturn, 1) := by decide +kernel
theorem d_L_put_0 : decode cL_put 0 = .ok (.bipush 24, 2) := by decide +kernel
theorem d_L_put_2 : decode cL_put 2 = .ok (.bipush 8, 2) := by decide +kernel
theorem d_L_put_4 : decode cL_put 4 = .ok (.iload_n 1, 1) := by decide +kernel
theorem d_L_put_5 : decode cL_put 5 = .ok (.iconst 3, 1) := by decide +kernel
theorem d_L_put_6 : decode cL_put 6 = .ok (.iand, 1) := by decide +kernel
theorem d_L_put_7 : decode cL_put 7 = .ok (.imul, 1) := by decide +kernel
theorem d_L_put_8 : decode cL_put 8 = .ok (.isub, 1) := by decide +kernel
theorem d_L_put_9 : decode cL_put 9 = .ok (.istore_n 3, 1) := by decide +kernel
theorem d_L_put_10 : decode cL_put 10 = .ok (.aload_n 0, 1) := by decide +kernel
theorem d_L_put_11 : decode cL_put 11 = .ok (.iload_n 1, 1) := by decide +kernel
theorem d_L_put_12 : decode cL_put 12 = .ok (.iconst 2, 1) := by decide +kernel
theorem d_L_put_13 : decode cL_put 13 = .ok (.ishr, 1) := by decide +kernel
theorem d_L_put_14 : decode cL_put 14 = .ok (.aload_n 0, 1) := by decide +kernel
theorem d_L_put_15 : decode cL_put 15 = .ok (.iload_n 1, 1) := by decide +kernel
theorem d_L_put_16 : decode cL_put 16 = .ok (.iconst 2, 1) := by decide +kernel
theorem d_L_put_17 : decode cL_put 17 = .ok (.ishr, 1) := by decide +kernel
theorem d_L_put_18 : decode cL_put 18 = .ok (.iaload, 1) := by decide +kernel
theorem d_L_put_19 : decode cL_put 19 = .ok (.sipush 255, 3) := by decide +kernel
theorem d_L_put_22 : decode cL_put 22 = .ok (.iload_n 3, 1) := by decide +kernel
theorem d_L_put_23 : decode cL_put 23 = .ok (.ishl, 1) := by decide +kernel
theorem d_L_put_24 : decode cL_put 24 = .ok (.iconst (-1), 1) := by decide +kernel
theorem d_L_put_25 : decode cL_put 25 = .ok (.ixor, 1) := by decide +kernel
theorem d_L_put_26 : decode cL_put 26 = .ok (.iand, 1) := by decide +kernel
theorem d_L_put_27 : decode cL_put 27 = .ok (.iload_n 2, 1) := by decide +kernel
theorem d_L_put_28 : decode cL_put 28 = .ok (.sipush 255, 3) := by decide +kernel
theorem d_L_put_31 : decode cL_put 31 = .ok (.iand, 1) := by decide +kernel
theorem d_L_put_32 : decode cL_put 32 = .ok (.iload_n 3, 1) := by decide +kernel
theorem d_L_put_33 : decode cL_put 33 = .ok (.ishl, 1) := by decide +kernel
theorem d_L_put_34 : decode cL_put 34 = .ok (.ior, 1) := by decide +kernel
theorem d_L_put_35 : decode cL_put 35 = .ok (.iastore, 1) := by decide +kernel
theorem d_L_put_36 : decode cL_put 36 = .ok (.iload_n 1, 1) := by decide +kernel
theorem d_L_put_37 : decode cL_put 37 = .ok (.iconst 1, 1) := by decide +kernel
theorem d_L_put_38 : decode cL_put 38 = .ok (.iadd, 1) := by decide +kernel
theorem d_L_put_39 : decode cL_put 39 = .ok (.ireturn, 1) := by decide +kernel
theorem d_L_number_0 : decode cL_number 0 = .ok (.iload_n 1, 1) := by decide +kernel
theorem d_L_number_1 : decode cL_number 1 = .ok (.istore_n 3, 1) := by decide +kernel
theorem d_L_number_2 : decode cL_number 2 = .ok (.iload_n 2, 1) := by decide +kernel
theorem d_L_number_3 : decode cL_number 3 = .ok (.bipush 9, 2) := by decide +kernel
theorem d_L_number_5 : decode cL_number 5 = .ok (.if_icmp .le 19, 3) := by decide +kernel
theorem d_L_number_8 : decode cL_number 8 = .ok (.aload_n 0, 1) := by decide +kernel
theorem d_L_number_9 : decode cL_number 9 = .ok (.iload_n 3, 1) := by decide +kernel
theorem d_L_number_10 : decode cL_number 10 = .ok (.bipush 48, 2) := by decide +kernel
theorem d_L_number_12 : decode cL_number 12 = .ok (.iload_n 2, 1) := by decide +kernel
theorem d_L_number_13 : decode cL_number 13 = .ok (.bipush 10, 2) := by decide +kernel
theorem d_L_number_15 : decode cL_number 15 = .ok (.idiv, 1) := by decide +kernel
theorem d_L_number_16 : decode cL_number 16 = .ok (.bipush 10, 2) := by decide +kernel
theorem d_L_number_18 : decode cL_number 18 = .ok (.irem, 1) := by decide +kernel
theorem d_L_number_19 : decode cL_number 19 = .ok (.iadd, 1) := by decide +kernel
theorem d_L_number_20 : decode cL_number 20 = .ok (.invokestatic 17, 3) := by decide +kernel
theorem d_L_number_23 : decode cL_number 23 = .ok (.istore_n 3, 1) := by decide +kernel
theorem d_L_number_24 : decode cL_number 24 = .ok (.aload_n 0, 1) := by decide +kernel
theorem d_L_number_25 : decode cL_number 25 = .ok (.iload_n 3, 1) := by decide +kernel
theorem d_L_number_26 : decode cL_number 26 = .ok (.bipush 48, 2) := by decide +kernel
theorem d_L_number_28 : decode cL_number 28 = .ok (.iload_n 2, 1) := by decide +kernel
theorem d_L_number_29 : decode cL_number 29 = .ok (.bipush 10, 2) := by decide +kernel
theorem d_L_number_31 : decode cL_number 31 = .ok (.irem, 1) := by decide +kernel
theorem d_L_number_32 : decode cL_number 32 = .ok (.iadd, 1) := by decide +kernel
theorem d_L_number_33 : decode cL_number 33 = .ok (.invokestatic 17, 3) := by decide +kernel
theorem d_L_number_36 : decode cL_number 36 = .ok (.ireturn, 1) := by decide +kernel
theorem d_L_lies_0 : decode cL_lies 0 = .ok (.aload_n 0, 1) := by decide +kernel
theorem d_L_lies_1 : decode cL_lies 1 = .ok (.iconst 0, 1) := by decide +kernel
theorem d_L_lies_2 : decode cL_lies 2 = .ok (.invokevirtual 23, 3) := by decide +kernel
theorem d_L_lies_5 : decode cL_lies 5 = .ok (.ifCond .ne 5, 3) := by decide +kernel
theorem d_L_lies_8 : decode cL_lies 8 = .ok (.iconst 0, 1) := by decide +kernel
theorem d_L_lies_9 : decode cL_lies 9 = .ok (.ireturn, 1) := by decide +kernel
theorem d_L_lies_10 : decode cL_lies 10 = .ok (.iconst 0, 1) := by decide +kernel
theorem d_L_lies_11 : decode cL_lies 11 = .ok (.istore_n 3, 1) := by decide +kernel
theorem d_L_lies_12 : decode cL_lies 12 = .ok (.iconst 4, 1) := by decide +kernel
theorem d_L_lies_13 : decode cL_lies 13 = .ok (.iload_n 3, 1) := by decide +kernel
theorem d_L_lies_14 : decode cL_lies 14 = .ok (.imul, 1) := by decide +kernel
theorem d_L_lies_15 : decode cL_lies 15 = .ok (.iload_n 2, 1) := by decide +kernel
theorem d_L_lies_16 : decode cL_lies 16 = .ok (.if_icmp .ge 89, 3) := by decide +kernel
theorem d_L_lies_19 : decode cL_lies 19 = .ok (.aload_n 0, 1) := by decide +kernel
theorem d_L_lies_20 : decode cL_lies 20 = .ok (.aload_n 1, 1) := by decide +kernel
theorem d_L_lies_21 : decode cL_lies 21 = .ok (.iload_n 3, 1) := by decide +kernel
theorem d_L_lies_22 : decode cL_lies 22 = .ok (.iaload, 1) := by decide +kernel
theorem d_L_lies_23 : decode cL_lies 23 = .ok (.iload_n 3, 1) := by decide +kernel
theorem d_L_lies_24 : decode cL_lies 24 = .ok (.iconst 1, 1) := by decide +kernel
theorem d_L_lies_25 : decode cL_lies 25 = .ok (.iadd, 1) := by decide +kernel
theorem d_L_lies_26 : decode cL_lies 26 = .ok (.bipush 64, 2) := by decide +kernel
theorem d_L_lies_28 : decode cL_lies 28 = .ok (.if_icmp .ge 11, 3) := by decide +kernel
theorem d_L_lies_31 : decode cL_lies 31 = .ok (.aload_n 1, 1) := by decide +kernel
theorem d_L_lies_32 : decode cL_lies 32 = .ok (.iload_n 3, 1) := by decide +kernel
theorem d_L_lies_33 : decode cL_lies 33 = .ok (.iconst 1, 1) := by decide +kernel
theorem d_L_lies_34 : decode cL_lies 34 = .ok (.iadd, 1) := by decide +kernel
theorem d_L_lies_35 : decode cL_lies 35 = .ok (.iaload, 1) := by decide +kernel
theorem d_L_lies_36 : decode cL_lies 36 = .ok (.goto 4, 3) := by decide +kernel
theorem d_L_lies_39 : decode cL_lies 39 = .ok (.iconst 0, 1) := by decide +kernel
theorem d_L_lies_40 : decode cL_lies 40 = .ok (.iload_n 3, 1) := by decide +kernel
theorem d_L_lies_41 : decode cL_lies 41 = .ok (.iconst 2, 1) := by decide +kernel
theorem d_L_lies_42 : decode cL_lies 42 = .ok (.iadd, 1) := by decide +kernel
theorem d_L_lies_43 : decode cL_lies 43 = .ok (.bipush 64, 2) := by decide +kernel
theorem d_L_lies_45 : decode cL_lies 45 = .ok (.if_icmp .ge 11, 3) := by decide +kernel
theorem d_L_lies_48 : decode cL_lies 48 = .ok (.aload_n 1, 1) := by decide +kernel
theorem d_L_lies_49 : decode cL_lies 49 = .ok (.iload_n 3, 1) := by decide +kernel
theorem d_L_lies_50 : decode cL_lies 50 = .ok (.iconst 2, 1) := by decide +kernel
theorem d_L_lies_51 : decode cL_lies 51 = .ok (.iadd, 1) := by decide +kernel
theorem d_L_lies_52 : decode cL_lies 52 = .ok (.iaload, 1) := by decide +kernel
theorem d_L_lies_53 : decode cL_lies 53 = .ok (.goto 4, 3) := by decide +kernel
theorem d_L_lies_56 : decode cL_lies 56 = .ok (.iconst 0, 1) := by decide +kernel
theorem d_L_lies_57 : decode cL_lies 57 = .ok (.iload_n 3, 1) := by decide +kernel
theorem d_L_lies_58 : decode cL_lies 58 = .ok (.iconst 3, 1) := by decide +kernel
theorem d_L_lies_59 : decode cL_lies 59 = .ok (.iadd, 1) := by decide +kernel
theorem d_L_lies_60 : decode cL_lies 60 = .ok (.bipush 64, 2) := by decide +kernel
theorem d_L_lies_62 : decode cL_lies 62 = .ok (.if_icmp .ge 11, 3) := by decide +kernel
theorem d_L_lies_65 : decode cL_lies 65 = .ok (.aload_n 1, 1) := by decide +kernel
theorem d_L_lies_66 : decode cL_lies 66 = .ok (.iload_n 3, 1) := by decide +kernel
theorem d_L_lies_67 : decode cL_lies 67 = .ok (.iconst 3, 1) := by decide +kernel
theorem d_L_lies_68 : decode cL_lies 68 = .ok (.iadd, 1) := by decide +kernel
theorem d_L_lies_69 : decode cL_lies 69 = .ok (.iaload, 1) := by decide +kernel
theorem d_L_lies_70 : decode cL_lies 70 = .ok (.goto 4, 3) := by decide +kernel
theorem d_L_lies_73 : decode cL_lies 73 = .ok (.iconst 0, 1) := by decide +kernel
theorem d_L_lies_74 : decode cL_lies 74 = .ok (.iload_n 3, 1) := by decide +kernel
theorem d_L_lies_75 : decode cL_lies 75 = .ok (.iconst 4, 1) := by decide +kernel
theorem d_L_lies_76 : decode cL_lies 76 = .ok (.iadd, 1) := by decide +kernel
theorem d_L_lies_77 : decode cL_lies 77 = .ok (.bipush 64, 2) := by decide +kernel
theorem d_L_lies_79 : decode cL_lies 79 = .ok (.if_icmp .ge 11, 3) := by decide +kernel
theorem d_L_lies_82 : decode cL_lies 82 = .ok (.aload_n 1, 1) := by decide +kernel
theorem d_L_lies_83 : decode cL_lies 83 = .ok (.iload_n 3, 1) := by decide +kernel
theorem d_L_lies_84 : decode cL_lies 84 = .ok (.iconst 4, 1) := by decide +kernel
theorem d_L_lies_85 : decode cL_lies 85 = .ok (.iadd, 1) := by decide +kernel
theorem d_L_lies_86 : decode cL_lies 86 = .ok (.iaload, 1) := by decide +kernel
theorem d_L_lies_87 : decode cL_lies 87 = .ok (.goto 4, 3) := by decide +kernel
theorem d_L_lies_90 : decode cL_lies 90 = .ok (.iconst 0, 1) := by decide +kernel
theorem d_L_lies_91 : decode cL_lies 91 = .ok (.invokevirtual 29, 3) := by decide +kernel
theorem d_L_lies_94 : decode cL_lies 94 = .ok (.ifCond .ge 5, 3) := by decide +kernel
theorem d_L_lies_97 : decode cL_lies 97 = .ok (.iconst 0, 1) := by decide +kernel
theorem d_L_lies_98 : decode cL_lies 98 = .ok (.ireturn, 1) := by decide +kernel
theorem d_L_lies_99 : decode cL_lies 99 = .ok (.iinc 3 5, 3) := by decide +kernel
theorem d_L_lies_102 : decode cL_lies 102 = .ok (.goto (-90), 3) := by decide +kernel
theorem d_L_lies_105 : decode cL_lies 105 = .ok (.aload_n 0, 1) := by decide +kernel
theorem d_L_lies_106 : decode cL_lies 106 = .ok (.iload_n 2, 1) := by decide +kernel
theorem d_L_lies_107 : decode cL_lies 107 = .ok (.invokevirtual 23, 3) := by decide +kernel
theorem d_L_lies_110 : decode cL_lies 110 = .ok (.ireturn, 1) := by decide +kernel
theorem d_L_tells_0 : decode cL_tells 0 = .ok (.aload_n 2, 1) := by decide +kernel
theorem d_L_tells_1 : decode cL_tells 1 = .ok (.iconst 0, 1) := by decide +kernel
theorem d_L_tells_2 : decode cL_tells 2 = .ok (.iconst 2, 1) := by decide +kernel
theorem d_L_tells_3 : decode cL_tells 3 = .ok (.aload_n 3, 1) := by decide +kernel
theorem d_L_tells_4 : decode cL_tells 4 = .ok (.iload 4, 2) := by decide +kernel
theorem d_L_tells_6 : decode cL_tells 6 = .ok (.iconst 1, 1) := by decide +kernel
theorem d_L_tells_7 : decode cL_tells 7 = .ok (.isub, 1) := by decide +kernel
theorem d_L_tells_8 : decode cL_tells 8 = .ok (.invokestatic 43, 3) := by decide +kernel
theorem d_L_tells_11 : decode cL_tells 11 = .ok (.iadd, 1) := by decide +kernel
theorem d_L_tells_12 : decode cL_tells 12 = .ok (.iastore, 1) := by decide +kernel
theorem d_L_tells_13 : decode cL_tells 13 = .ok (.aload_n 2, 1) := by decide +kernel
theorem d_L_tells_14 : decode cL_tells 14 = .ok (.iconst 1, 1) := by decide +kernel
theorem d_L_tells_15 : decode cL_tells 15 = .ok (.aload_n 3, 1) := by decide +kernel
theorem d_L_tells_16 : decode cL_tells 16 = .ok (.bipush 15, 2) := by decide +kernel
theorem d_L_tells_18 : decode cL_tells 18 = .ok (.invokestatic 43, 3) := by decide +kernel
theorem d_L_tells_21 : decode cL_tells 21 = .ok (.iastore, 1) := by decide +kernel
theorem d_L_tells_22 : decode cL_tells 22 = .ok (.aload_n 2, 1) := by decide +kernel
theorem d_L_tells_23 : decode cL_tells 23 = .ok (.iconst 2, 1) := by decide +kernel
theorem d_L_tells_24 : decode cL_tells 24 = .ok (.iconst 1, 1) := by decide +kernel
theorem d_L_tells_25 : decode cL_tells 25 = .ok (.aload_n 3, 1) := by decide +kernel
theorem d_L_tells_26 : decode cL_tells 26 = .ok (.iconst 4, 1) := by decide +kernel
theorem d_L_tells_27 : decode cL_tells 27 = .ok (.invokestatic 43, 3) := by decide +kernel
theorem d_L_tells_30 : decode cL_tells 30 = .ok (.iadd, 1) := by decide +kernel
theorem d_L_tells_31 : decode cL_tells 31 = .ok (.iastore, 1) := by decide +kernel
theorem d_L_tells_32 : decode cL_tells 32 = .ok (.iconst 0, 1) := by decide +kernel
theorem d_L_tells_33 : decode cL_tells 33 = .ok (.istore 5, 2) := by decide +kernel
theorem d_L_tells_35 : decode cL_tells 35 = .ok (.iconst 0, 1) := by decide +kernel
theorem d_L_tells_36 : decode cL_tells 36 = .ok (.istore 6, 2) := by decide +kernel
theorem d_L_tells_38 : decode cL_tells 38 = .ok (.iload 6, 2) := by decide +kernel
theorem d_L_tells_40 : decode cL_tells 40 = .ok (.aload_n 2, 1) := by decide +kernel
theorem d_L_tells_41 : decode cL_tells 41 = .ok (.iconst 0, 1) := by decide +kernel
theorem d_L_tells_42 : decode cL_tells 42 = .ok (.iaload, 1) := by decide +kernel
theorem d_L_tells_43 : decode cL_tells 43 = .ok (.if_icmp .ge 34, 3) := by decide +kernel
theorem d_L_tells_46 : decode cL_tells 46 = .ok (.aload_n 1, 1) := by decide +kernel
theorem d_L_tells_47 : decode cL_tells 47 = .ok (.aload_n 1, 1) := by decide +kernel
theorem d_L_tells_48 : decode cL_tells 48 = .ok (.aload_n 1, 1) := by decide +kernel
theorem d_L_tells_49 : decode cL_tells 49 = .ok (.iload 5, 2) := by decide +kernel
theorem d_L_tells_51 : decode cL_tells 51 = .ok (.ldc 47, 2) := by decide +kernel
theorem d_L_tells_53 : decode cL_tells 53 = .ok (.invokestatic 49, 3) := by decide +kernel
theorem d_L_tells_56 : decode cL_tells 56 = .ok (.bipush 97, 2) := by decide +kernel
theorem d_L_tells_58 : decode cL_tells 58 = .ok (.iload 6, 2) := by decide +kernel
theorem d_L_tells_60 : decode cL_tells 60 = .ok (.iadd, 1) := by decide +kernel
theorem d_L_tells_61 : decode cL_tells 61 = .ok (.invokestatic 17, 3) := by decide +kernel
theorem d_L_tells_64 : decode cL_tells 64 = .ok (.bipush 59, 2) := by decide +kernel
theorem d_L_tells_66 : decode cL_tells 66 = .ok (.invokestatic 17, 3) := by decide +kernel
theorem d_L_tells_69 : decode cL_tells 69 = .ok (.istore 5, 2) := by decide +kernel
theorem d_L_tells_71 : decode cL_tells 71 = .ok (.iinc 6 1, 3) := by decide +kernel
theorem d_L_tells_74 : decode cL_tells 74 = .ok (.goto (-36), 3) := by decide +kernel
theorem d_L_tells_77 : decode cL_tells 77 = .ok (.iconst 0, 1) := by decide +kernel
theorem d_L_tells_78 : decode cL_tells 78 = .ok (.istore 6, 2) := by decide +kernel
theorem d_L_tells_80 : decode cL_tells 80 = .ok (.iload 6, 2) := by decide +kernel
theorem d_L_tells_82 : decode cL_tells 82 = .ok (.aload_n 2, 1) := by decide +kernel
theorem d_L_tells_83 : decode cL_tells 83 = .ok (.iconst 1, 1) := by decide +kernel
theorem d_L_tells_84 : decode cL_tells 84 = .ok (.iaload, 1) := by decide +kernel
theorem d_L_tells_85 : decode cL_tells 85 = .ok (.if_icmp .ge 131, 3) := by decide +kernel
theorem d_L_tells_88 : decode cL_tells 88 = .ok (.aload_n 3, 1) := by decide +kernel
theorem d_L_tells_89 : decode cL_tells 89 = .ok (.aload_n 2, 1) := by decide +kernel
theorem d_L_tells_90 : decode cL_tells 90 = .ok (.iconst 0, 1) := by decide +kernel
theorem d_L_tells_91 : decode cL_tells 91 = .ok (.iaload, 1) := by decide +kernel
theorem d_L_tells_92 : decode cL_tells 92 = .ok (.invokestatic 43, 3) := by decide +kernel
theorem d_L_tells_95 : decode cL_tells 95 = .ok (.istore 7, 2) := by decide +kernel
theorem d_L_tells_97 : decode cL_tells 97 = .ok (.iload 7, 2) := by decide +kernel
theorem d_L_tells_99 : decode cL_tells 99 = .ok (.iconst 1, 1) := by decide +kernel
theorem d_L_tells_100 : decode cL_tells 100 = .ok (.iadd, 1) := by decide +kernel
theorem d_L_tells_101 : decode cL_tells 101 = .ok (.aload_n 3, 1) := by decide +kernel
theorem d_L_tells_102 : decode cL_tells 102 = .ok (.aload_n 2, 1) := by decide +kernel
theorem d_L_tells_103 : decode cL_tells 103 = .ok (.iconst 0, 1) := by decide +kernel
theorem d_L_tells_104 : decode cL_tells 104 = .ok (.iaload, 1) := by decide +kernel
theorem d_L_tells_105 : decode cL_tells 105 = .ok (.iconst 1, 1) := by decide +kernel
theorem d_L_tells_106 : decode cL_tells 106 = .ok (.isub, 1) := by decide +kernel
theorem d_L_tells_107 : decode cL_tells 107 = .ok (.invokestatic 43, 3) := by decide +kernel
theorem d_L_tells_110 : decode cL_tells 110 = .ok (.iadd, 1) := by decide +kernel
theorem d_L_tells_111 : decode cL_tells 111 = .ok (.aload_n 2, 1) := by decide +kernel
theorem d_L_tells_112 : decode cL_tells 112 = .ok (.iconst 0, 1) := by decide +kernel
theorem d_L_tells_113 : decode cL_tells 113 = .ok (.iaload, 1) := by decide +kernel
theorem d_L_tells_114 : decode cL_tells 114 = .ok (.irem, 1) := by decide +kernel
theorem d_L_tells_115 : decode cL_tells 115 = .ok (.istore 8, 2) := by decide +kernel
theorem d_L_tells_117 : decode cL_tells 117 = .ok (.aload_n 2, 1) := by decide +kernel
theorem d_L_tells_118 : decode cL_tells 118 = .ok (.iconst 4, 1) := by decide +kernel
theorem d_L_tells_119 : decode cL_tells 119 = .ok (.iload 6, 2) := by decide +kernel
theorem d_L_tells_121 : decode cL_tells 121 = .ok (.iadd, 1) := by decide +kernel
theorem d_L_tells_122 : decode cL_tells 122 = .ok (.iload 7, 2) := by decide +kernel
theorem d_L_tells_124 : decode cL_tells 124 = .ok (.iastore, 1) := by decide +kernel
theorem d_L_tells_125 : decode cL_tells 125 = .ok (.aload_n 2, 1) := by decide +kernel
theorem d_L_tells_126 : decode cL_tells 126 = .ok (.bipush 30, 2) := by decide +kernel
theorem d_L_tells_128 : decode cL_tells 128 = .ok (.iload 6, 2) := by decide +kernel
theorem d_L_tells_130 : decode cL_tells 130 = .ok (.iadd, 1) := by decide +kernel
theorem d_L_tells_131 : decode cL_tells 131 = .ok (.iload 8, 2) := by decide +kernel
theorem d_L_tells_133 : decode cL_tells 133 = .ok (.iastore, 1) := by decide +kernel
theorem d_L_tells_134 : decode cL_tells 134 = .ok (.aload_n 2, 1) := by decide +kernel
theorem d_L_tells_135 : decode cL_tells 135 = .ok (.bipush 56, 2) := by decide +kernel
theorem d_L_tells_137 : decode cL_tells 137 = .ok (.iload 6, 2) := by decide +kernel
theorem d_L_tells_139 : decode cL_tells 139 = .ok (.iadd, 1) := by decide +kernel
theorem d_L_tells_140 : decode cL_tells 140 = .ok (.iconst 1, 1) := by decide +kernel
theorem d_L_tells_141 : decode cL_tells 141 = .ok (.aload_n 3, 1) := by decide +kernel
theorem d_L_tells_142 : decode cL_tells 142 = .ok (.bipush 30, 2) := by decide +kernel
theorem d_L_tells_144 : decode cL_tells 144 = .ok (.invokestatic 43, 3) := by decide +kernel
theorem d_L_tells_147 : decode cL_tells 147 = .ok (.iadd, 1) := by decide +kernel
theorem d_L_tells_148 : decode cL_tells 148 = .ok (.iastore, 1) := by decide +kernel
theorem d_L_tells_149 : decode cL_tells 149 = .ok (.aload_n 1, 1) := by decide +kernel
theorem d_L_tells_150 : decode cL_tells 150 = .ok (.aload_n 1, 1) := by decide +kernel
theorem d_L_tells_151 : decode cL_tells 151 = .ok (.aload_n 1, 1) := by decide +kernel
theorem d_L_tells_152 : decode cL_tells 152 = .ok (.iload 5, 2) := by decide +kernel
theorem d_L_tells_154 : decode cL_tells 154 = .ok (.ldc 53, 2) := by decide +kernel
theorem d_L_tells_156 : decode cL_tells 156 = .ok (.invokestatic 49, 3) := by decide +kernel
theorem d_L_tells_159 : decode cL_tells 159 = .ok (.bipush 97, 2) := by decide +kernel
theorem d_L_tells_161 : decode cL_tells 161 = .ok (.iload 7, 2) := by decide +kernel
theorem d_L_tells_163 : decode cL_tells 163 = .ok (.iadd, 1) := by decide +kernel
theorem d_L_tells_164 : decode cL_tells 164 = .ok (.invokestatic 17, 3) := by decide +kernel
theorem d_L_tells_167 : decode cL_tells 167 = .ok (.bipush 32, 2) := by decide +kernel
theorem d_L_tells_169 : decode cL_tells 169 = .ok (.invokestatic 17, 3) := by decide +kernel
theorem d_L_tells_172 : decode cL_tells 172 = .ok (.istore 5, 2) := by decide +kernel
theorem d_L_tells_174 : decode cL_tells 174 = .ok (.aload_n 1, 1) := by decide +kernel
theorem d_L_tells_175 : decode cL_tells 175 = .ok (.aload_n 1, 1) := by decide +kernel
theorem d_L_tells_176 : decode cL_tells 176 = .ok (.aload_n 1, 1) := by decide +kernel
theorem d_L_tells_177 : decode cL_tells 177 = .ok (.aload_n 1, 1) := by decide +kernel
theorem d_L_tells_178 : decode cL_tells 178 = .ok (.iload 5, 2) := by decide +kernel
theorem d_L_tells_180 : decode cL_tells 180 = .ok (.bipush 97, 2) := by decide +kernel
theorem d_L_tells_182 : decode cL_tells 182 = .ok (.iload 8, 2) := by decide +kernel
theorem d_L_tells_184 : decode cL_tells 184 = .ok (.iadd, 1) := by decide +kernel
theorem d_L_tells_185 : decode cL_tells 185 = .ok (.invokestatic 17, 3) := by decide +kernel
theorem d_L_tells_188 : decode cL_tells 188 = .ok (.bipush 32, 2) := by decide +kernel
theorem d_L_tells_190 : decode cL_tells 190 = .ok (.invokestatic 17, 3) := by decide +kernel
theorem d_L_tells_193 : decode cL_tells 193 = .ok (.aload_n 2, 1) := by decide +kernel
theorem d_L_tells_194 : decode cL_tells 194 = .ok (.bipush 56, 2) := by decide +kernel
theorem d_L_tells_196 : decode cL_tells 196 = .ok (.iload 6, 2) := by decide +kernel
theorem d_L_tells_198 : decode cL_tells 198 = .ok (.iadd, 1) := by decide +kernel
theorem d_L_tells_199 : decode cL_tells 199 = .ok (.iaload, 1) := by decide +kernel
theorem d_L_tells_200 : decode cL_tells 200 = .ok (.invokestatic 55, 3) := by decide +kernel
theorem d_L_tells_203 : decode cL_tells 203 = .ok (.bipush 59, 2) := by decide +kernel
theorem d_L_tells_205 : decode cL_tells 205 = .ok (.invokestatic 17, 3) := by decide +kernel
theorem d_L_tells_208 : decode cL_tells 208 = .ok (.istore 5, 2) := by decide +kernel
theorem d_L_tells_210 : decode cL_tells 210 = .ok (.iinc 6 1, 3) := by decide +kernel
theorem d_L_tells_213 : decode cL_tells 213 = .ok (.goto (-133), 3) := by decide +kernel
theorem d_L_tells_216 : decode cL_tells 216 = .ok (.aload_n 1, 1) := by decide +kernel
theorem d_L_tells_217 : decode cL_tells 217 = .ok (.aload_n 1, 1) := by decide +kernel
theorem d_L_tells_218 : decode cL_tells 218 = .ok (.aload_n 1, 1) := by decide +kernel
theorem d_L_tells_219 : decode cL_tells 219 = .ok (.iload 5, 2) := by decide +kernel
theorem d_L_tells_221 : decode cL_tells 221 = .ok (.ldc 58, 2) := by decide +kernel
theorem d_L_tells_223 : decode cL_tells 223 = .ok (.invokestatic 49, 3) := by decide +kernel
theorem d_L_tells_226 : decode cL_tells 226 = .ok (.aload_n 2, 1) := by decide +kernel
theorem d_L_tells_227 : decode cL_tells 227 = .ok (.iconst 2, 1) := by decide +kernel
theorem d_L_tells_228 : decode cL_tells 228 = .ok (.iaload, 1) := by decide +kernel
theorem d_L_tells_229 : decode cL_tells 229 = .ok (.invokestatic 55, 3) := by decide +kernel
theorem d_L_tells_232 : decode cL_tells 232 = .ok (.bipush 59, 2) := by decide +kernel
theorem d_L_tells_234 : decode cL_tells 234 = .ok (.invokestatic 17, 3) := by decide +kernel
theorem d_L_tells_237 : decode cL_tells 237 = .ok (.istore 5, 2) := by decide +kernel
theorem d_L_tells_239 : decode cL_tells 239 = .ok (.aload_n 0, 1) := by decide +kernel
theorem d_L_tells_240 : decode cL_tells 240 = .ok (.aload_n 1, 1) := by decide +kernel
theorem d_L_tells_241 : decode cL_tells 241 = .ok (.iload 5, 2) := by decide +kernel
theorem d_L_tells_243 : decode cL_tells 243 = .ok (.invokestatic 60, 3) := by decide +kernel
theorem d_L_tells_246 : decode cL_tells 246 = .ok (.ifCond .eq 78, 3) := by decide +kernel
theorem d_L_tells_249 : decode cL_tells 249 = .ok (.aload_n 0, 1) := by decide +kernel
theorem d_L_tells_250 : decode cL_tells 250 = .ok (.invokevirtual 64, 3) := by decide +kernel
theorem d_L_tells_253 : decode cL_tells 253 = .ok (.aload_n 2, 1) := by decide +kernel
theorem d_L_tells_254 : decode cL_tells 254 = .ok (.iconst 0, 1) := by decide +kernel
theorem d_L_tells_255 : decode cL_tells 255 = .ok (.iaload, 1) := by decide +kernel
theorem d_L_tells_256 : decode cL_tells 256 = .ok (.aload_n 2, 1) := by decide +kernel
theorem d_L_tells_257 : decode cL_tells 257 = .ok (.iconst 1, 1) := by decide +kernel
theorem d_L_tells_258 : decode cL_tells 258 = .ok (.iaload, 1) := by decide +kernel
theorem d_L_tells_259 : decode cL_tells 259 = .ok (.iadd, 1) := by decide +kernel
theorem d_L_tells_260 : decode cL_tells 260 = .ok (.iconst 1, 1) := by decide +kernel
theorem d_L_tells_261 : decode cL_tells 261 = .ok (.iadd, 1) := by decide +kernel
theorem d_L_tells_262 : decode cL_tells 262 = .ok (.if_icmp .ne 62, 3) := by decide +kernel
theorem d_L_tells_265 : decode cL_tells 265 = .ok (.aload_n 0, 1) := by decide +kernel
theorem d_L_tells_266 : decode cL_tells 266 = .ok (.invokevirtual 67, 3) := by decide +kernel
theorem d_L_tells_269 : decode cL_tells 269 = .ok (.ifCond .ne 55, 3) := by decide +kernel
theorem d_L_tells_272 : decode cL_tells 272 = .ok (.aload_n 0, 1) := by decide +kernel
theorem d_L_tells_273 : decode cL_tells 273 = .ok (.iconst 0, 1) := by decide +kernel
theorem d_L_tells_274 : decode cL_tells 274 = .ok (.invokevirtual 70, 3) := by decide +kernel
theorem d_L_tells_277 : decode cL_tells 277 = .ok (.aload_n 2, 1) := by decide +kernel
theorem d_L_tells_278 : decode cL_tells 278 = .ok (.iconst 0, 1) := by decide +kernel
theorem d_L_tells_279 : decode cL_tells 279 = .ok (.iaload, 1) := by decide +kernel
theorem d_L_tells_280 : decode cL_tells 280 = .ok (.if_icmp .ne 44, 3) := by decide +kernel
theorem d_L_tells_283 : decode cL_tells 283 = .ok (.aload_n 0, 1) := by decide +kernel
theorem d_L_tells_284 : decode cL_tells 284 = .ok (.iconst 1, 1) := by decide +kernel
theorem d_L_tells_285 : decode cL_tells 285 = .ok (.invokevirtual 70, 3) := by decide +kernel
theorem d_L_tells_288 : decode cL_tells 288 = .ok (.aload_n 2, 1) := by decide +kernel
theorem d_L_tells_289 : decode cL_tells 289 = .ok (.iconst 1, 1) := by decide +kernel
theorem d_L_tells_290 : decode cL_tells 290 = .ok (.iaload, 1) := by decide +kernel
theorem d_L_tells_291 : decode cL_tells 291 = .ok (.if_icmp .ne 33, 3) := by decide +kernel
theorem d_L_tells_294 : decode cL_tells 294 = .ok (.aload_n 0, 1) := by decide +kernel
theorem d_L_tells_295 : decode cL_tells 295 = .ok (.iconst 2, 1) := by decide +kernel
theorem d_L_tells_296 : decode cL_tells 296 = .ok (.invokevirtual 70, 3) := by decide +kernel
theorem d_L_tells_299 : decode cL_tells 299 = .ok (.aload_n 2, 1) := by decide +kernel
theorem d_L_tells_300 : decode cL_tells 300 = .ok (.iconst 2, 1) := by decide +kernel
theorem d_L_tells_301 : decode cL_tells 301 = .ok (.iaload, 1) := by decide +kernel
theorem d_L_tells_302 : decode cL_tells 302 = .ok (.if_icmp .ne 22, 3) := by decide +kernel
theorem d_L_tells_305 : decode cL_tells 305 = .ok (.aload_n 0, 1) := by decide +kernel
theorem d_L_tells_306 : decode cL_tells 306 = .ok (.iconst 0, 1) := by decide +kernel
theorem d_L_tells_307 : decode cL_tells 307 = .ok (.aload_n 2, 1) := by decide +kernel
theorem d_L_tells_308 : decode cL_tells 308 = .ok (.iconst 1, 1) := by decide +kernel
theorem d_L_tells_309 : decode cL_tells 309 = .ok (.iaload, 1) := by decide +kernel
theorem d_L_tells_310 : decode cL_tells 310 = .ok (.iconst 0, 1) := by decide +kernel
theorem d_L_tells_311 : decode cL_tells 311 = .ok (.invokestatic 74, 3) := by decide +kernel
theorem d_L_tells_314 : decode cL_tells 314 = .ok (.sipush (-777), 3) := by decide +kernel
theorem d_L_tells_317 : decode cL_tells 317 = .ok (.if_icmp .ne 7, 3) := by decide +kernel
theorem d_L_tells_320 : decode cL_tells 320 = .ok (.iconst 1, 1) := by decide +kernel
theorem d_L_tells_321 : decode cL_tells 321 = .ok (.goto 4, 3) := by decide +kernel
theorem d_L_tells_324 : decode cL_tells 324 = .ok (.iconst 0, 1) := by decide +kernel
theorem d_L_tells_325 : decode cL_tells 325 = .ok (.ireturn, 1) := by decide +kernel
theorem d_L_sound_0 : decode cL_sound 0 = .ok (.iconst 0, 1) := by decide +kernel
theorem d_L_sound_1 : decode cL_sound 1 = .ok (.istore_n 2, 1) := by decide +kernel
theorem d_L_sound_2 : decode cL_sound 2 = .ok (.iconst 0, 1) := by decide +kernel
theorem d_L_sound_3 : decode cL_sound 3 = .ok (.istore_n 3, 1) := by decide +kernel
theorem d_L_sound_4 : decode cL_sound 4 = .ok (.iload_n 3, 1) := by decide +kernel
theorem d_L_sound_5 : decode cL_sound 5 = .ok (.aload_n 1, 1) := by decide +kernel
theorem d_L_sound_6 : decode cL_sound 6 = .ok (.iconst 1, 1) := by decide +kernel
theorem d_L_sound_7 : decode cL_sound 7 = .ok (.iaload, 1) := by decide +kernel
theorem d_L_sound_8 : decode cL_sound 8 = .ok (.if_icmp .ge 25, 3) := by decide +kernel
theorem d_L_sound_11 : decode cL_sound 11 = .ok (.aload_n 0, 1) := by decide +kernel
theorem d_L_sound_12 : decode cL_sound 12 = .ok (.iconst 0, 1) := by decide +kernel
theorem d_L_sound_13 : decode cL_sound 13 = .ok (.iload_n 3, 1) := by decide +kernel
theorem d_L_sound_14 : decode cL_sound 14 = .ok (.iconst 4, 1) := by decide +kernel
theorem d_L_sound_15 : decode cL_sound 15 = .ok (.invokestatic 74, 3) := by decide +kernel
theorem d_L_sound_18 : decode cL_sound 18 = .ok (.ifCond .ne 9, 3) := by decide +kernel
theorem d_L_sound_21 : decode cL_sound 21 = .ok (.iload_n 2, 1) := by decide +kernel
theorem d_L_sound_22 : decode cL_sound 22 = .ok (.iconst 1, 1) := by decide +kernel
theorem d_L_sound_23 : decode cL_sound 23 = .ok (.iload_n 3, 1) := by decide +kernel
theorem d_L_sound_24 : decode cL_sound 24 = .ok (.ishl, 1) := by decide +kernel
theorem d_L_sound_25 : decode cL_sound 25 = .ok (.ior, 1) := by decide +kernel
theorem d_L_sound_26 : decode cL_sound 26 = .ok (.istore_n 2, 1) := by decide +kernel
theorem d_L_sound_27 : decode cL_sound 27 = .ok (.iinc 3 1, 3) := by decide +kernel
theorem d_L_sound_30 : decode cL_sound 30 = .ok (.goto (-26), 3) := by decide +kernel
theorem d_L_sound_33 : decode cL_sound 33 = .ok (.iload_n 2, 1) := by decide +kernel
theorem d_L_sound_34 : decode cL_sound 34 = .ok (.ireturn, 1) := by decide +kernel
theorem d_L_bits_0 : decode cL_bits 0 = .ok (.iconst 0, 1) := by decide +kernel
theorem d_L_bits_1 : decode cL_bits 1 = .ok (.istore_n 1, 1) := by decide +kernel
theorem d_L_bits_2 : decode cL_bits 2 = .ok (.iconst 0, 1) := by decide +kernel
theorem d_L_bits_3 : decode cL_bits 3 = .ok (.istore_n 2, 1) := by decide +kernel
theorem d_L_bits_4 : decode cL_bits 4 = .ok (.iload_n 2, 1) := by decide +kernel
theorem d_L_bits_5 : decode cL_bits 5 = .ok (.bipush 24, 2) := by decide +kernel
theorem d_L_bits_7 : decode cL_bits 7 = .ok (.if_icmp .ge 17, 3) := by decide +kernel
theorem d_L_bits_10 : decode cL_bits 10 = .ok (.iload_n 1, 1) := by decide +kernel
theorem d_L_bits_11 : decode cL_bits 11 = .ok (.iload_n 0, 1) := by decide +kernel
theorem d_L_bits_12 : decode cL_bits 12 = .ok (.iload_n 2, 1) := by decide +kernel
theorem d_L_bits_13 : decode cL_bits 13 = .ok (.ishr, 1) := by decide +kernel
theorem d_L_bits_14 : decode cL_bits 14 = .ok (.iconst 1, 1) := by decide +kernel
theorem d_L_bits_15 : decode cL_bits 15 = .ok (.iand, 1) := by decide +kernel
theorem d_L_bits_16 : decode cL_bits 16 = .ok (.iadd, 1) := by decide +kernel
theorem d_L_bits_17 : decode cL_bits 17 = .ok (.istore_n 1, 1) := by decide +kernel
theorem d_L_bits_18 : decode cL_bits 18 = .ok (.iinc 2 1, 3) := by decide +kernel
theorem d_L_bits_21 : decode cL_bits 21 = .ok (.goto (-17), 3) := by decide +kernel
theorem d_L_bits_24 : decode cL_bits 24 = .ok (.iload_n 1, 1) := by decide +kernel
theorem d_L_bits_25 : decode cL_bits 25 = .ok (.ireturn, 1) := by decide +kernel
theorem d_L_has_0 : decode cL_has 0 = .ok (.iload_n 0, 1) := by decide +kernel
theorem d_L_has_1 : decode cL_has 1 = .ok (.iload_n 1, 1) := by decide +kernel
theorem d_L_has_2 : decode cL_has 2 = .ok (.ishr, 1) := by decide +kernel
theorem d_L_has_3 : decode cL_has 3 = .ok (.iconst 1, 1) := by decide +kernel
theorem d_L_has_4 : decode cL_has 4 = .ok (.iand, 1) := by decide +kernel
theorem d_L_has_5 : decode cL_has 5 = .ok (.iconst 1, 1) := by decide +kernel
theorem d_L_has_6 : decode cL_has 6 = .ok (.if_icmp .ne 7, 3) := by decide +kernel
theorem d_L_has_9 : decode cL_has 9 = .ok (.iconst 1, 1) := by decide +kernel
theorem d_L_has_10 : decode cL_has 10 = .ok (.goto 4, 3) := by decide +kernel
theorem d_L_has_13 : decode cL_has 13 = .ok (.iconst 0, 1) := by decide +kernel
theorem d_L_has_14 : decode cL_has 14 = .ok (.ireturn, 1) := by decide +kernel
theorem d_L_ends_0 : decode cL_ends 0 = .ok (.iconst 1, 1) := by decide +kernel
theorem d_L_ends_1 : decode cL_ends 1 = .ok (.aload_n 0, 1) := by decide +kernel
theorem d_L_ends_2 : decode cL_ends 2 = .ok (.iconst 4, 1) := by decide +kernel
theorem d_L_ends_3 : decode cL_ends 3 = .ok (.iload_n 1, 1) := by decide +kernel
theorem d_L_ends_4 : decode cL_ends 4 = .ok (.iadd, 1) := by decide +kernel
theorem d_L_ends_5 : decode cL_ends 5 = .ok (.iaload, 1) := by decide +kernel
theorem d_L_ends_6 : decode cL_ends 6 = .ok (.ishl, 1) := by decide +kernel
theorem d_L_ends_7 : decode cL_ends 7 = .ok (.iconst 1, 1) := by decide +kernel
theorem d_L_ends_8 : decode cL_ends 8 = .ok (.aload_n 0, 1) := by decide +kernel
theorem d_L_ends_9 : decode cL_ends 9 = .ok (.bipush 30, 2) := by decide +kernel
theorem d_L_ends_11 : decode cL_ends 11 = .ok (.iload_n 1, 1) := by decide +kernel
theorem d_L_ends_12 : decode cL_ends 12 = .ok (.iadd, 1) := by decide +kernel
theorem d_L_ends_13 : decode cL_ends 13 = .ok (.iaload, 1) := by decide +kernel
theorem d_L_ends_14 : decode cL_ends 14 = .ok (.ishl, 1) := by decide +kernel
theorem d_L_ends_15 : decode cL_ends 15 = .ok (.ior, 1) := by decide +kernel
theorem d_L_ends_16 : decode cL_ends 16 = .ok (.ireturn, 1) := by decide +kernel
theorem d_L_inner_0 : decode cL_inner 0 = .ok (.iconst 0, 1) := by decide +kernel
theorem d_L_inner_1 : decode cL_inner 1 = .ok (.istore_n 3, 1) := by decide +kernel
theorem d_L_inner_2 : decode cL_inner 2 = .ok (.iconst 0, 1) := by decide +kernel
theorem d_L_inner_3 : decode cL_inner 3 = .ok (.istore 4, 2) := by decide +kernel
theorem d_L_inner_5 : decode cL_inner 5 = .ok (.iload 4, 2) := by decide +kernel
theorem d_L_inner_7 : decode cL_inner 7 = .ok (.aload_n 0, 1) := by decide +kernel
theorem d_L_inner_8 : decode cL_inner 8 = .ok (.iconst 1, 1) := by decide +kernel
theorem d_L_inner_9 : decode cL_inner 9 = .ok (.iaload, 1) := by decide +kernel
theorem d_L_inner_10 : decode cL_inner 10 = .ok (.if_icmp .ge 34, 3) := by decide +kernel
theorem d_L_inner_13 : decode cL_inner 13 = .ok (.iload_n 2, 1) := by decide +kernel
theorem d_L_inner_14 : decode cL_inner 14 = .ok (.iload 4, 2) := by decide +kernel
theorem d_L_inner_16 : decode cL_inner 16 = .ok (.invokestatic 78, 3) := by decide +kernel
theorem d_L_inner_19 : decode cL_inner 19 = .ok (.ifCond .eq 19, 3) := by decide +kernel
theorem d_L_inner_22 : decode cL_inner 22 = .ok (.aload_n 0, 1) := by decide +kernel
theorem d_L_inner_23 : decode cL_inner 23 = .ok (.iload 4, 2) := by decide +kernel
theorem d_L_inner_25 : decode cL_inner 25 = .ok (.invokestatic 82, 3) := by decide +kernel
theorem d_L_inner_28 : decode cL_inner 28 = .ok (.iload_n 1, 1) := by decide +kernel
theorem d_L_inner_29 : decode cL_inner 29 = .ok (.iconst (-1), 1) := by decide +kernel
theorem d_L_inner_30 : decode cL_inner 30 = .ok (.ixor, 1) := by decide +kernel
theorem d_L_inner_31 : decode cL_inner 31 = .ok (.iand, 1) := by decide +kernel
theorem d_L_inner_32 : decode cL_inner 32 = .ok (.ifCond .ne 6, 3) := by decide +kernel
theorem d_L_inner_35 : decode cL_inner 35 = .ok (.iinc 3 1, 3) := by decide +kernel
theorem d_L_inner_38 : decode cL_inner 38 = .ok (.iinc 4 1, 3) := by decide +kernel
theorem d_L_inner_41 : decode cL_inner 41 = .ok (.goto (-36), 3) := by decide +kernel
theorem d_L_inner_44 : decode cL_inner 44 = .ok (.iload_n 3, 1) := by decide +kernel
theorem d_L_inner_45 : decode cL_inner 45 = .ok (.ireturn, 1) := by decide +kernel
theorem d_L_agree_0 : decode cL_agree 0 = .ok (.aload_n 0, 1) := by decide +kernel
theorem d_L_agree_1 : decode cL_agree 1 = .ok (.aload_n 1, 1) := by decide +kernel
theorem d_L_agree_2 : decode cL_agree 2 = .ok (.invokestatic 101, 3) := by decide +kernel
theorem d_L_agree_5 : decode cL_agree 5 = .ok (.istore_n 2, 1) := by decide +kernel
theorem d_L_agree_6 : decode cL_agree 6 = .ok (.aload_n 0, 1) := by decide +kernel
theorem d_L_agree_7 : decode cL_agree 7 = .ok (.invokevirtual 123, 3) := by decide +kernel
theorem d_L_agree_10 : decode cL_agree 10 = .ok (.istore_n 3, 1) := by decide +kernel
theorem d_L_agree_11 : decode cL_agree 11 = .ok (.aload_n 0, 1) := by decide +kernel
theorem d_L_agree_12 : decode cL_agree 12 = .ok (.iload_n 3, 1) := by decide +kernel
theorem d_L_agree_13 : decode cL_agree 13 = .ok (.invokevirtual 126, 3) := by decide +kernel
theorem d_L_agree_16 : decode cL_agree 16 = .ok (.iload_n 2, 1) := by decide +kernel
theorem d_L_agree_17 : decode cL_agree 17 = .ok (.invokestatic 91, 3) := by decide +kernel
theorem d_L_agree_20 : decode cL_agree 20 = .ok (.if_icmp .ne 21, 3) := by decide +kernel
theorem d_L_agree_23 : decode cL_agree 23 = .ok (.iload_n 3, 1) := by decide +kernel
theorem d_L_agree_24 : decode cL_agree 24 = .ok (.ifCond .le 19, 3) := by decide +kernel
theorem d_L_agree_27 : decode cL_agree 27 = .ok (.aload_n 0, 1) := by decide +kernel
theorem d_L_agree_28 : decode cL_agree 28 = .ok (.iload_n 3, 1) := by decide +kernel
theorem d_L_agree_29 : decode cL_agree 29 = .ok (.iconst 1, 1) := by decide +kernel
theorem d_L_agree_30 : decode cL_agree 30 = .ok (.isub, 1) := by decide +kernel
theorem d_L_agree_31 : decode cL_agree 31 = .ok (.invokevirtual 126, 3) := by decide +kernel
theorem d_L_agree_34 : decode cL_agree 34 = .ok (.iload_n 2, 1) := by decide +kernel
theorem d_L_agree_35 : decode cL_agree 35 = .ok (.invokestatic 91, 3) := by decide +kernel
theorem d_L_agree_38 : decode cL_agree 38 = .ok (.if_icmp .lt 5, 3) := by decide +kernel
theorem d_L_agree_41 : decode cL_agree 41 = .ok (.iconst 0, 1) := by decide +kernel
theorem d_L_agree_42 : decode cL_agree 42 = .ok (.ireturn, 1) := by decide +kernel
theorem d_L_agree_43 : decode cL_agree 43 = .ok (.aload_n 0, 1) := by decide +kernel
theorem d_L_agree_44 : decode cL_agree 44 = .ok (.iconst 0, 1) := by decide +kernel
theorem d_L_agree_45 : decode cL_agree 45 = .ok (.invokevirtual 129, 3) := by decide +kernel
theorem d_L_agree_48 : decode cL_agree 48 = .ok (.istore 4, 2) := by decide +kernel
theorem d_L_agree_50 : decode cL_agree 50 = .ok (.aload_n 0, 1) := by decide +kernel
theorem d_L_agree_51 : decode cL_agree 51 = .ok (.iconst 1, 1) := by decide +kernel
theorem d_L_agree_52 : decode cL_agree 52 = .ok (.invokevirtual 129, 3) := by decide +kernel
theorem d_L_agree_55 : decode cL_agree 55 = .ok (.istore 5, 2) := by decide +kernel
theorem d_L_agree_57 : decode cL_agree 57 = .ok (.aload_n 0, 1) := by decide +kernel
theorem d_L_agree_58 : decode cL_agree 58 = .ok (.iconst 2, 1) := by decide +kernel
theorem d_L_agree_59 : decode cL_agree 59 = .ok (.invokevirtual 129, 3) := by decide +kernel
theorem d_L_agree_62 : decode cL_agree 62 = .ok (.istore 6, 2) := by decide +kernel
theorem d_L_agree_64 : decode cL_agree 64 = .ok (.iload 5, 2) := by decide +kernel
theorem d_L_agree_66 : decode cL_agree 66 = .ok (.iconst 1, 1) := by decide +kernel
theorem d_L_agree_67 : decode cL_agree 67 = .ok (.if_icmp .lt 40, 3) := by decide +kernel
theorem d_L_agree_70 : decode cL_agree 70 = .ok (.iload 4, 2) := by decide +kernel
theorem d_L_agree_72 : decode cL_agree 72 = .ok (.iload 5, 2) := by decide +kernel
theorem d_L_agree_74 : decode cL_agree 74 = .ok (.iadd, 1) := by decide +kernel
theorem d_L_agree_75 : decode cL_agree 75 = .ok (.iconst 1, 1) := by decide +kernel
theorem d_L_agree_76 : decode cL_agree 76 = .ok (.isub, 1) := by decide +kernel
theorem d_L_agree_77 : decode cL_agree 77 = .ok (.iload 5, 2) := by decide +kernel
theorem d_L_agree_79 : decode cL_agree 79 = .ok (.idiv, 1) := by decide +kernel
theorem d_L_agree_80 : decode cL_agree 80 = .ok (.iload_n 3, 1) := by decide +kernel
theorem d_L_agree_81 : decode cL_agree 81 = .ok (.if_icmp .ne 26, 3) := by decide +kernel
theorem d_L_agree_84 : decode cL_agree 84 = .ok (.aload_n 1, 1) := by decide +kernel
theorem d_L_agree_85 : decode cL_agree 85 = .ok (.iload 6, 2) := by decide +kernel
theorem d_L_agree_87 : decode cL_agree 87 = .ok (.iload_n 2, 1) := by decide +kernel
theorem d_L_agree_88 : decode cL_agree 88 = .ok (.invokestatic 120, 3) := by decide +kernel
theorem d_L_agree_91 : decode cL_agree 91 = .ok (.iload 5, 2) := by decide +kernel
theorem d_L_agree_93 : decode cL_agree 93 = .ok (.imul, 1) := by decide +kernel
theorem d_L_agree_94 : decode cL_agree 94 = .ok (.iload 4, 2) := by decide +kernel
theorem d_L_agree_96 : decode cL_agree 96 = .ok (.iload 6, 2) := by decide +kernel
theorem d_L_agree_98 : decode cL_agree 98 = .ok (.invokestatic 91, 3) := by decide +kernel
theorem d_L_agree_101 : decode cL_agree 101 = .ok (.iconst 1, 1) := by decide +kernel
theorem d_L_agree_102 : decode cL_agree 102 = .ok (.isub, 1) := by decide +kernel
theorem d_L_agree_103 : decode cL_agree 103 = .ok (.imul, 1) := by decide +kernel
theorem d_L_agree_104 : decode cL_agree 104 = .ok (.if_icmp .eq 5, 3) := by decide +kernel
theorem d_L_agree_107 : decode cL_agree 107 = .ok (.iconst 0, 1) := by decide +kernel
theorem d_L_agree_108 : decode cL_agree 108 = .ok (.ireturn, 1) := by decide +kernel
theorem d_L_agree_109 : decode cL_agree 109 = .ok (.iconst 1, 1) := by decide +kernel
theorem d_L_agree_110 : decode cL_agree 110 = .ok (.istore 7, 2) := by decide +kernel
theorem d_L_agree_112 : decode cL_agree 112 = .ok (.iload 7, 2) := by decide +kernel
theorem d_L_agree_114 : decode cL_agree 114 = .ok (.iconst 1, 1) := by decide +kernel
theorem d_L_agree_115 : decode cL_agree 115 = .ok (.aload_n 1, 1) := by decide +kernel
theorem d_L_agree_116 : decode cL_agree 116 = .ok (.iconst 0, 1) := by decide +kernel
theorem d_L_agree_117 : decode cL_agree 117 = .ok (.iaload, 1) := by decide +kernel
theorem d_L_agree_118 : decode cL_agree 118 = .ok (.ishl, 1) := by decide +kernel
theorem d_L_agree_119 : decode cL_agree 119 = .ok (.if_icmp .ge 43, 3) := by decide +kernel
theorem d_L_agree_122 : decode cL_agree 122 = .ok (.iload 7, 2) := by decide +kernel
theorem d_L_agree_124 : decode cL_agree 124 = .ok (.invokestatic 91, 3) := by decide +kernel
theorem d_L_agree_127 : decode cL_agree 127 = .ok (.iconst 1, 1) := by decide +kernel
theorem d_L_agree_128 : decode cL_agree 128 = .ok (.if_icmp .le 28, 3) := by decide +kernel
theorem d_L_agree_131 : decode cL_agree 131 = .ok (.aload_n 1, 1) := by decide +kernel
theorem d_L_agree_132 : decode cL_agree 132 = .ok (.iload 7, 2) := by decide +kernel
theorem d_L_agree_134 : decode cL_agree 134 = .ok (.iload_n 2, 1) := by decide +kernel
theorem d_L_agree_135 : decode cL_agree 135 = .ok (.invokestatic 120, 3) := by decide +kernel
theorem d_L_agree_138 : decode cL_agree 138 = .ok (.iload 5, 2) := by decide +kernel
theorem d_L_agree_140 : decode cL_agree 140 = .ok (.imul, 1) := by decide +kernel
theorem d_L_agree_141 : decode cL_agree 141 = .ok (.iload 4, 2) := by decide +kernel
theorem d_L_agree_143 : decode cL_agree 143 = .ok (.iload 7, 2) := by decide +kernel
theorem d_L_agree_145 : decode cL_agree 145 = .ok (.invokestatic 91, 3) := by decide +kernel
theorem d_L_agree_148 : decode cL_agree 148 = .ok (.iconst 1, 1) := by decide +kernel
theorem d_L_agree_149 : decode cL_agree 149 = .ok (.isub, 1) := by decide +kernel
theorem d_L_agree_150 : decode cL_agree 150 = .ok (.imul, 1) := by decide +kernel
theorem d_L_agree_151 : decode cL_agree 151 = .ok (.if_icmp .le 5, 3) := by decide +kernel
theorem d_L_agree_154 : decode cL_agree 154 = .ok (.iconst 0, 1) := by decide +kernel
theorem d_L_agree_155 : decode cL_agree 155 = .ok (.ireturn, 1) := by decide +kernel
theorem d_L_agree_156 : decode cL_agree 156 = .ok (.iinc 7 1, 3) := by decide +kernel
theorem d_L_agree_159 : decode cL_agree 159 = .ok (.goto (-47), 3) := by decide +kernel
theorem d_L_agree_162 : decode cL_agree 162 = .ok (.aload_n 0, 1) := by decide +kernel
theorem d_L_agree_163 : decode cL_agree 163 = .ok (.invokevirtual 132, 3) := by decide +kernel
theorem d_L_agree_166 : decode cL_agree 166 = .ok (.istore 7, 2) := by decide +kernel
theorem d_L_agree_168 : decode cL_agree 168 = .ok (.aload_n 0, 1) := by decide +kernel
theorem d_L_agree_169 : decode cL_agree 169 = .ok (.iconst 1, 1) := by decide +kernel
theorem d_L_agree_170 : decode cL_agree 170 = .ok (.invokevirtual 135, 3) := by decide +kernel
theorem d_L_agree_173 : decode cL_agree 173 = .ok (.iconst 1, 1) := by decide +kernel
theorem d_L_agree_174 : decode cL_agree 174 = .ok (.if_icmp .lt 57, 3) := by decide +kernel
theorem d_L_agree_177 : decode cL_agree 177 = .ok (.aload_n 0, 1) := by decide +kernel
theorem d_L_agree_178 : decode cL_agree 178 = .ok (.iconst 0, 1) := by decide +kernel
theorem d_L_agree_179 : decode cL_agree 179 = .ok (.invokevirtual 135, 3) := by decide +kernel
theorem d_L_agree_182 : decode cL_agree 182 = .ok (.aload_n 0, 1) := by decide +kernel
theorem d_L_agree_183 : decode cL_agree 183 = .ok (.iconst 1, 1) := by decide +kernel
theorem d_L_agree_184 : decode cL_agree 184 = .ok (.invokevirtual 135, 3) := by decide +kernel
theorem d_L_agree_187 : decode cL_agree 187 = .ok (.idiv, 1) := by decide +kernel
theorem d_L_agree_188 : decode cL_agree 188 = .ok (.iload 7, 2) := by decide +kernel
theorem d_L_agree_190 : decode cL_agree 190 = .ok (.if_icmp .ne 41, 3) := by decide +kernel
theorem d_L_agree_193 : decode cL_agree 193 = .ok (.aload_n 0, 1) := by decide +kernel
theorem d_L_agree_194 : decode cL_agree 194 = .ok (.iload 7, 2) := by decide +kernel
theorem d_L_agree_196 : decode cL_agree 196 = .ok (.invokevirtual 126, 3) := by decide +kernel
theorem d_L_agree_199 : decode cL_agree 199 = .ok (.iload 7, 2) := by decide +kernel
theorem d_L_agree_201 : decode cL_agree 201 = .ok (.aload_n 1, 1) := by decide +kernel
theorem d_L_agree_202 : decode cL_agree 202 = .ok (.iconst 0, 1) := by decide +kernel
theorem d_L_agree_203 : decode cL_agree 203 = .ok (.iaload, 1) := by decide +kernel
theorem d_L_agree_204 : decode cL_agree 204 = .ok (.iconst 1, 1) := by decide +kernel
theorem d_L_agree_205 : decode cL_agree 205 = .ok (.isub, 1) := by decide +kernel
theorem d_L_agree_206 : decode cL_agree 206 = .ok (.imul, 1) := by decide +kernel
theorem d_L_agree_207 : decode cL_agree 207 = .ok (.if_icmp .ne 24, 3) := by decide +kernel
theorem d_L_agree_210 : decode cL_agree 210 = .ok (.aload_n 0, 1) := by decide +kernel
theorem d_L_agree_211 : decode cL_agree 211 = .ok (.iload 7, 2) := by decide +kernel
theorem d_L_agree_213 : decode cL_agree 213 = .ok (.iconst 1, 1) := by decide +kernel
theorem d_L_agree_214 : decode cL_agree 214 = .ok (.iadd, 1) := by decide +kernel
theorem d_L_agree_215 : decode cL_agree 215 = .ok (.invokevirtual 126, 3) := by decide +kernel
theorem d_L_agree_218 : decode cL_agree 218 = .ok (.iload 7, 2) := by decide +kernel
theorem d_L_agree_220 : decode cL_agree 220 = .ok (.iconst 1, 1) := by decide +kernel
theorem d_L_agree_221 : decode cL_agree 221 = .ok (.iadd, 1) := by decide +kernel
theorem d_L_agree_222 : decode cL_agree 222 = .ok (.aload_n 1, 1) := by decide +kernel
theorem d_L_agree_223 : decode cL_agree 223 = .ok (.iconst 0, 1) := by decide +kernel
theorem d_L_agree_224 : decode cL_agree 224 = .ok (.iaload, 1) := by decide +kernel
theorem d_L_agree_225 : decode cL_agree 225 = .ok (.iconst 1, 1) := by decide +kernel
theorem d_L_agree_226 : decode cL_agree 226 = .ok (.isub, 1) := by decide +kernel
theorem d_L_agree_227 : decode cL_agree 227 = .ok (.imul, 1) := by decide +kernel
theorem d_L_agree_228 : decode cL_agree 228 = .ok (.if_icmp .lt 5, 3) := by decide +kernel
theorem d_L_agree_231 : decode cL_agree 231 = .ok (.iconst 0, 1) := by decide +kernel
theorem d_L_agree_232 : decode cL_agree 232 = .ok (.ireturn, 1) := by decide +kernel
theorem d_L_agree_233 : decode cL_agree 233 = .ok (.iconst 0, 1) := by decide +kernel
theorem d_L_agree_234 : decode cL_agree 234 = .ok (.istore 8, 2) := by decide +kernel
theorem d_L_agree_236 : decode cL_agree 236 = .ok (.iload 8, 2) := by decide +kernel
theorem d_L_agree_238 : decode cL_agree 238 = .ok (.iconst 4, 1) := by decide +kernel
theorem d_L_agree_239 : decode cL_agree 239 = .ok (.if_icmp .ge 75, 3) := by decide +kernel
theorem d_L_agree_242 : decode cL_agree 242 = .ok (.aload_n 0, 1) := by decide +kernel
theorem d_L_agree_243 : decode cL_agree 243 = .ok (.iload 8, 2) := by decide +kernel
theorem d_L_agree_245 : decode cL_agree 245 = .ok (.invokevirtual 138, 3) := by decide +kernel
theorem d_L_agree_248 : decode cL_agree 248 = .ok (.istore 9, 2) := by decide +kernel
theorem d_L_agree_250 : decode cL_agree 250 = .ok (.iload 9, 2) := by decide +kernel
theorem d_L_agree_252 : decode cL_agree 252 = .ok (.ifCond .ne 7, 3) := by decide +kernel
theorem d_L_agree_255 : decode cL_agree 255 = .ok (.iconst 1, 1) := by decide +kernel
theorem d_L_agree_256 : decode cL_agree 256 = .ok (.goto 4, 3) := by decide +kernel
theorem d_L_agree_259 : decode cL_agree 259 = .ok (.iconst 0, 1) := by decide +kernel
theorem d_L_agree_260 : decode cL_agree 260 = .ok (.aload_n 0, 1) := by decide +kernel
theorem d_L_agree_261 : decode cL_agree 261 = .ok (.iload 8, 2) := by decide +kernel
theorem d_L_agree_263 : decode cL_agree 263 = .ok (.invokevirtual 126, 3) := by decide +kernel
theorem d_L_agree_266 : decode cL_agree 266 = .ok (.iload_n 2, 1) := by decide +kernel
theorem d_L_agree_267 : decode cL_agree 267 = .ok (.invokestatic 91, 3) := by decide +kernel
theorem d_L_agree_270 : decode cL_agree 270 = .ok (.if_icmp .ne 7, 3) := by decide +kernel
theorem d_L_agree_273 : decode cL_agree 273 = .ok (.iconst 1, 1) := by decide +kernel
theorem d_L_agree_274 : decode cL_agree 274 = .ok (.goto 4, 3) := by decide +kernel
theorem d_L_agree_277 : decode cL_agree 277 = .ok (.iconst 0, 1) := by decide +kernel
theorem d_L_agree_278 : decode cL_agree 278 = .ok (.if_icmp .ne 28, 3) := by decide +kernel
theorem d_L_agree_281 : decode cL_agree 281 = .ok (.iload 9, 2) := by decide +kernel
theorem d_L_agree_283 : decode cL_agree 283 = .ok (.ifCond .eq 25, 3) := by decide +kernel
theorem d_L_agree_286 : decode cL_agree 286 = .ok (.aload_n 1, 1) := by decide +kernel
theorem d_L_agree_287 : decode cL_agree 287 = .ok (.iload 9, 2) := by decide +kernel
theorem d_L_agree_289 : decode cL_agree 289 = .ok (.iload_n 2, 1) := by decide +kernel
theorem d_L_agree_290 : decode cL_agree 290 = .ok (.invokestatic 120, 3) := by decide +kernel
theorem d_L_agree_293 : decode cL_agree 293 = .ok (.iload 8, 2) := by decide +kernel
theorem d_L_agree_295 : decode cL_agree 295 = .ok (.iload 9, 2) := by decide +kernel
theorem d_L_agree_297 : decode cL_agree 297 = .ok (.invokestatic 91, 3) := by decide +kernel
theorem d_L_agree_300 : decode cL_agree 300 = .ok (.iconst 1, 1) := by decide +kernel
theorem d_L_agree_301 : decode cL_agree 301 = .ok (.isub, 1) := by decide +kernel
theorem d_L_agree_302 : decode cL_agree 302 = .ok (.imul, 1) := by decide +kernel
theorem d_L_agree_303 : decode cL_agree 303 = .ok (.if_icmp .gt 5, 3) := by decide +kernel
theorem d_L_agree_306 : decode cL_agree 306 = .ok (.iconst 0, 1) := by decide +kernel
theorem d_L_agree_307 : decode cL_agree 307 = .ok (.ireturn, 1) := by decide +kernel
theorem d_L_agree_308 : decode cL_agree 308 = .ok (.iinc 8 1, 3) := by decide +kernel
theorem d_L_agree_311 : decode cL_agree 311 = .ok (.goto (-75), 3) := by decide +kernel
theorem d_L_agree_314 : decode cL_agree 314 = .ok (.iconst 1, 1) := by decide +kernel
theorem d_L_agree_315 : decode cL_agree 315 = .ok (.ireturn, 1) := by decide +kernel
theorem d_L_joined_0 : decode cL_joined 0 = .ok (.iconst 1, 1) := by decide +kernel
theorem d_L_joined_1 : decode cL_joined 1 = .ok (.iload_n 1, 1) := by decide +kernel
theorem d_L_joined_2 : decode cL_joined 2 = .ok (.ishl, 1) := by decide +kernel
theorem d_L_joined_3 : decode cL_joined 3 = .ok (.istore_n 3, 1) := by decide +kernel
theorem d_L_joined_4 : decode cL_joined 4 = .ok (.iconst 0, 1) := by decide +kernel
theorem d_L_joined_5 : decode cL_joined 5 = .ok (.istore 4, 2) := by decide +kernel
theorem d_L_joined_7 : decode cL_joined 7 = .ok (.iload 4, 2) := by decide +kernel
theorem d_L_joined_9 : decode cL_joined 9 = .ok (.aload_n 0, 1) := by decide +kernel
theorem d_L_joined_10 : decode cL_joined 10 = .ok (.iconst 0, 1) := by decide +kernel
theorem d_L_joined_11 : decode cL_joined 11 = .ok (.iaload, 1) := by decide +kernel
theorem d_L_joined_12 : decode cL_joined 12 = .ok (.if_icmp .ge 55, 3) := by decide +kernel
theorem d_L_joined_15 : decode cL_joined 15 = .ok (.iconst 0, 1) := by decide +kernel
theorem d_L_joined_16 : decode cL_joined 16 = .ok (.istore 5, 2) := by decide +kernel
theorem d_L_joined_18 : decode cL_joined 18 = .ok (.iload 5, 2) := by decide +kernel
theorem d_L_joined_20 : decode cL_joined 20 = .ok (.aload_n 0, 1) := by decide +kernel
theorem d_L_joined_21 : decode cL_joined 21 = .ok (.iconst 1, 1) := by decide +kernel
theorem d_L_joined_22 : decode cL_joined 22 = .ok (.iaload, 1) := by decide +kernel
theorem d_L_joined_23 : decode cL_joined 23 = .ok (.if_icmp .ge 38, 3) := by decide +kernel
theorem d_L_joined_26 : decode cL_joined 26 = .ok (.iload_n 2, 1) := by decide +kernel
theorem d_L_joined_27 : decode cL_joined 27 = .ok (.iload 5, 2) := by decide +kernel
theorem d_L_joined_29 : decode cL_joined 29 = .ok (.invokestatic 78, 3) := by decide +kernel
theorem d_L_joined_32 : decode cL_joined 32 = .ok (.ifCond .eq 23, 3) := by decide +kernel
theorem d_L_joined_35 : decode cL_joined 35 = .ok (.aload_n 0, 1) := by decide +kernel
theorem d_L_joined_36 : decode cL_joined 36 = .ok (.iload 5, 2) := by decide +kernel
theorem d_L_joined_38 : decode cL_joined 38 = .ok (.invokestatic 82, 3) := by decide +kernel
theorem d_L_joined_41 : decode cL_joined 41 = .ok (.iload_n 3, 1) := by decide +kernel
theorem d_L_joined_42 : decode cL_joined 42 = .ok (.iand, 1) := by decide +kernel
theorem d_L_joined_43 : decode cL_joined 43 = .ok (.ifCond .eq 12, 3) := by decide +kernel
theorem d_L_joined_46 : decode cL_joined 46 = .ok (.iload_n 3, 1) := by decide +kernel
theorem d_L_joined_47 : decode cL_joined 47 = .ok (.aload_n 0, 1) := by decide +kernel
theorem d_L_joined_48 : decode cL_joined 48 = .ok (.iload 5, 2) := by decide +kernel
theorem d_L_joined_50 : decode cL_joined 50 = .ok (.invokestatic 82, 3) := by decide +kernel
theorem d_L_joined_53 : decode cL_joined 53 = .ok (.ior, 1) := by decide +kernel
theorem d_L_joined_54 : decode cL_joined 54 = .ok (.istore_n 3, 1) := by decide +kernel
theorem d_L_joined_55 : decode cL_joined 55 = .ok (.iinc 5 1, 3) := by decide +kernel
theorem d_L_joined_58 : decode cL_joined 58 = .ok (.goto (-40), 3) := by decide +kernel
theorem d_L_joined_61 : decode cL_joined 61 = .ok (.iinc 4 1, 3) := by decide +kernel
theorem d_L_joined_64 : decode cL_joined 64 = .ok (.goto (-57), 3) := by decide +kernel
theorem d_L_joined_67 : decode cL_joined 67 = .ok (.iload_n 3, 1) := by decide +kernel
theorem d_L_joined_68 : decode cL_joined 68 = .ok (.ireturn, 1) := by decide +kernel
theorem d_L_pieces_0 : decode cL_pieces 0 = .ok (.iconst 1, 1) := by decide +kernel
theorem d_L_pieces_1 : decode cL_pieces 1 = .ok (.aload_n 0, 1) := by decide +kernel
theorem d_L_pieces_2 : decode cL_pieces 2 = .ok (.iconst 0, 1) := by decide +kernel
theorem d_L_pieces_3 : decode cL_pieces 3 = .ok (.iaload, 1) := by decide +kernel
theorem d_L_pieces_4 : decode cL_pieces 4 = .ok (.ishl, 1) := by decide +kernel
theorem d_L_pieces_5 : decode cL_pieces 5 = .ok (.iconst 1, 1) := by decide +kernel
theorem d_L_pieces_6 : decode cL_pieces 6 = .ok (.isub, 1) := by decide +kernel
theorem d_L_pieces_7 : decode cL_pieces 7 = .ok (.istore_n 2, 1) := by decide +kernel
theorem d_L_pieces_8 : decode cL_pieces 8 = .ok (.iconst 0, 1) := by decide +kernel
theorem d_L_pieces_9 : decode cL_pieces 9 = .ok (.istore_n 3, 1) := by decide +kernel
theorem d_L_pieces_10 : decode cL_pieces 10 = .ok (.iconst 0, 1) := by decide +kernel
theorem d_L_pieces_11 : decode cL_pieces 11 = .ok (.istore 4, 2) := by decide +kernel
theorem d_L_pieces_13 : decode cL_pieces 13 = .ok (.iload 4, 2) := by decide +kernel
theorem d_L_pieces_15 : decode cL_pieces 15 = .ok (.aload_n 0, 1) := by decide +kernel
theorem d_L_pieces_16 : decode cL_pieces 16 = .ok (.iconst 0, 1) := by decide +kernel
theorem d_L_pieces_17 : decode cL_pieces 17 = .ok (.iaload, 1) := by decide +kernel
theorem d_L_pieces_18 : decode cL_pieces 18 = .ok (.if_icmp .ge 36, 3) := by decide +kernel
theorem d_L_pieces_21 : decode cL_pieces 21 = .ok (.iload_n 2, 1) := by decide +kernel
theorem d_L_pieces_22 : decode cL_pieces 22 = .ok (.iload 4, 2) := by decide +kernel
theorem d_L_pieces_24 : decode cL_pieces 24 = .ok (.invokestatic 78, 3) := by decide +kernel
theorem d_L_pieces_27 : decode cL_pieces 27 = .ok (.ifCond .ne 6, 3) := by decide +kernel
theorem d_L_pieces_30 : decode cL_pieces 30 = .ok (.goto 18, 3) := by decide +kernel
theorem d_L_pieces_33 : decode cL_pieces 33 = .ok (.iload_n 2, 1) := by decide +kernel
theorem d_L_pieces_34 : decode cL_pieces 34 = .ok (.aload_n 0, 1) := by decide +kernel
theorem d_L_pieces_35 : decode cL_pieces 35 = .ok (.iload 4, 2) := by decide +kernel
theorem d_L_pieces_37 : decode cL_pieces 37 = .ok (.iload_n 1, 1) := by decide +kernel
theorem d_L_pieces_38 : decode cL_pieces 38 = .ok (.invokestatic 85, 3) := by decide +kernel
theorem d_L_pieces_41 : decode cL_pieces 41 = .ok (.iconst (-1), 1) := by decide +kernel
theorem d_L_pieces_42 : decode cL_pieces 42 = .ok (.ixor, 1) := by decide +kernel
theorem d_L_pieces_43 : decode cL_pieces 43 = .ok (.iand, 1) := by decide +kernel
theorem d_L_pieces_44 : decode cL_pieces 44 = .ok (.istore_n 2, 1) := by decide +kernel
theorem d_L_pieces_45 : decode cL_pieces 45 = .ok (.iinc 3 1, 3) := by decide +kernel
theorem d_L_pieces_48 : decode cL_pieces 48 = .ok (.iinc 4 1, 3) := by decide +kernel
theorem d_L_pieces_51 : decode cL_pieces 51 = .ok (.goto (-38), 3) := by decide +kernel
theorem d_L_pieces_54 : decode cL_pieces 54 = .ok (.iload_n 3, 1) := by decide +kernel
theorem d_L_pieces_55 : decode cL_pieces 55 = .ok (.ireturn, 1) := by decide +kernel
theorem d_L_isForest_0 : decode cL_isForest 0 = .ok (.aload_n 0, 1) := by decide +kernel
theorem d_L_isForest_1 : decode cL_isForest 1 = .ok (.iload_n 1, 1) := by decide +kernel
theorem d_L_isForest_2 : decode cL_isForest 2 = .ok (.invokestatic 88, 3) := by decide +kernel
theorem d_L_isForest_5 : decode cL_isForest 5 = .ok (.aload_n 0, 1) := by decide +kernel
theorem d_L_isForest_6 : decode cL_isForest 6 = .ok (.iconst 0, 1) := by decide +kernel
theorem d_L_isForest_7 : decode cL_isForest 7 = .ok (.iaload, 1) := by decide +kernel
theorem d_L_isForest_8 : decode cL_isForest 8 = .ok (.iload_n 1, 1) := by decide +kernel
theorem d_L_isForest_9 : decode cL_isForest 9 = .ok (.invokestatic 91, 3) := by decide +kernel
theorem d_L_isForest_12 : decode cL_isForest 12 = .ok (.isub, 1) := by decide +kernel
theorem d_L_isForest_13 : decode cL_isForest 13 = .ok (.if_icmp .ne 7, 3) := by decide +kernel
theorem d_L_isForest_16 : decode cL_isForest 16 = .ok (.iconst 1, 1) := by decide +kernel
theorem d_L_isForest_17 : decode cL_isForest 17 = .ok (.goto 4, 3) := by decide +kernel
theorem d_L_isForest_20 : decode cL_isForest 20 = .ok (.iconst 0, 1) := by decide +kernel
theorem d_L_isForest_21 : decode cL_isForest 21 = .ok (.ireturn, 1) := by decide +kernel
theorem d_L_lying_0 : decode cL_lying 0 = .ok (.iconst 0, 1) := by decide +kernel
theorem d_L_lying_1 : decode cL_lying 1 = .ok (.istore_n 2, 1) := by decide +kernel
theorem d_L_lying_2 : decode cL_lying 2 = .ok (.iconst 0, 1) := by decide +kernel
theorem d_L_lying_3 : decode cL_lying 3 = .ok (.istore_n 3, 1) := by decide +kernel
theorem d_L_lying_4 : decode cL_lying 4 = .ok (.iload_n 3, 1) := by decide +kernel
theorem d_L_lying_5 : decode cL_lying 5 = .ok (.aload_n 0, 1) := by decide +kernel
theorem d_L_lying_6 : decode cL_lying 6 = .ok (.iconst 2, 1) := by decide +kernel
theorem d_L_lying_7 : decode cL_lying 7 = .ok (.invokevirtual 70, 3) := by decide +kernel
theorem d_L_lying_10 : decode cL_lying 10 = .ok (.if_icmp .ge 94, 3) := by decide +kernel
theorem d_L_lying_13 : decode cL_lying 13 = .ok (.aload_n 0, 1) := by decide +kernel
theorem d_L_lying_14 : decode cL_lying 14 = .ok (.iload_n 3, 1) := by decide +kernel
theorem d_L_lying_15 : decode cL_lying 15 = .ok (.invokevirtual 94, 3) := by decide +kernel
theorem d_L_lying_18 : decode cL_lying 18 = .ok (.istore 4, 2) := by decide +kernel
theorem d_L_lying_20 : decode cL_lying 20 = .ok (.iload 4, 2) := by decide +kernel
theorem d_L_lying_22 : decode cL_lying 22 = .ok (.ifCond .lt 28, 3) := by decide +kernel
theorem d_L_lying_25 : decode cL_lying 25 = .ok (.iload 4, 2) := by decide +kernel
theorem d_L_lying_27 : decode cL_lying 27 = .ok (.aload_n 1, 1) := by decide +kernel
theorem d_L_lying_28 : decode cL_lying 28 = .ok (.iconst 1, 1) := by decide +kernel
theorem d_L_lying_29 : decode cL_lying 29 = .ok (.iaload, 1) := by decide +kernel
theorem d_L_lying_30 : decode cL_lying 30 = .ok (.ishr, 1) := by decide +kernel
theorem d_L_lying_31 : decode cL_lying 31 = .ok (.ifCond .ne 19, 3) := by decide +kernel
theorem d_L_lying_34 : decode cL_lying 34 = .ok (.iload 4, 2) := by decide +kernel
theorem d_L_lying_36 : decode cL_lying 36 = .ok (.iload_n 2, 1) := by decide +kernel
theorem d_L_lying_37 : decode cL_lying 37 = .ok (.iand, 1) := by decide +kernel
theorem d_L_lying_38 : decode cL_lying 38 = .ok (.ifCond .ne 12, 3) := by decide +kernel
theorem d_L_lying_41 : decode cL_lying 41 = .ok (.aload_n 1, 1) := by decide +kernel
theorem d_L_lying_42 : decode cL_lying 42 = .ok (.iload 4, 2) := by decide +kernel
theorem d_L_lying_44 : decode cL_lying 44 = .ok (.invokestatic 97, 3) := by decide +kernel
theorem d_L_lying_47 : decode cL_lying 47 = .ok (.ifCond .ne 5, 3) := by decide +kernel
theorem d_L_lying_50 : decode cL_lying 50 = .ok (.iconst (-1), 1) := by decide +kernel
theorem d_L_lying_51 : decode cL_lying 51 = .ok (.ireturn, 1) := by decide +kernel
theorem d_L_lying_52 : decode cL_lying 52 = .ok (.iconst 0, 1) := by decide +kernel
theorem d_L_lying_53 : decode cL_lying 53 = .ok (.istore 5, 2) := by decide +kernel
theorem d_L_lying_55 : decode cL_lying 55 = .ok (.iload 5, 2) := by decide +kernel
theorem d_L_lying_57 : decode cL_lying 57 = .ok (.aload_n 1, 1) := by decide +kernel
theorem d_L_lying_58 : decode cL_lying 58 = .ok (.iconst 1, 1) := by decide +kernel
theorem d_L_lying_59 : decode cL_lying 59 = .ok (.iaload, 1) := by decide +kernel
theorem d_L_lying_60 : decode cL_lying 60 = .ok (.if_icmp .ge 33, 3) := by decide +kernel
theorem d_L_lying_63 : decode cL_lying 63 = .ok (.iload 4, 2) := by decide +kernel
theorem d_L_lying_65 : decode cL_lying 65 = .ok (.iload 5, 2) := by decide +kernel
theorem d_L_lying_67 : decode cL_lying 67 = .ok (.invokestatic 78, 3) := by decide +kernel
theorem d_L_lying_70 : decode cL_lying 70 = .ok (.ifCond .eq 17, 3) := by decide +kernel
theorem d_L_lying_73 : decode cL_lying 73 = .ok (.aload_n 0, 1) := by decide +kernel
theorem d_L_lying_74 : decode cL_lying 74 = .ok (.iconst 0, 1) := by decide +kernel
theorem d_L_lying_75 : decode cL_lying 75 = .ok (.iload 5, 2) := by decide +kernel
theorem d_L_lying_77 : decode cL_lying 77 = .ok (.iconst 3, 1) := by decide +kernel
theorem d_L_lying_78 : decode cL_lying 78 = .ok (.invokestatic 74, 3) := by decide +kernel
theorem d_L_lying_81 : decode cL_lying 81 = .ok (.iload_n 3, 1) := by decide +kernel
theorem d_L_lying_82 : decode cL_lying 82 = .ok (.if_icmp .eq 5, 3) := by decide +kernel
theorem d_L_lying_85 : decode cL_lying 85 = .ok (.iconst (-1), 1) := by decide +kernel
theorem d_L_lying_86 : decode cL_lying 86 = .ok (.ireturn, 1) := by decide +kernel
theorem d_L_lying_87 : decode cL_lying 87 = .ok (.iinc 5 1, 3) := by decide +kernel
theorem d_L_lying_90 : decode cL_lying 90 = .ok (.goto (-35), 3) := by decide +kernel
theorem d_L_lying_93 : decode cL_lying 93 = .ok (.iload_n 2, 1) := by decide +kernel
theorem d_L_lying_94 : decode cL_lying 94 = .ok (.iload 4, 2) := by decide +kernel
theorem d_L_lying_96 : decode cL_lying 96 = .ok (.ior, 1) := by decide +kernel
theorem d_L_lying_97 : decode cL_lying 97 = .ok (.istore_n 2, 1) := by decide +kernel
theorem d_L_lying_98 : decode cL_lying 98 = .ok (.iinc 3 1, 3) := by decide +kernel
theorem d_L_lying_101 : decode cL_lying 101 = .ok (.goto (-97), 3) := by decide +kernel
theorem d_L_lying_104 : decode cL_lying 104 = .ok (.iload_n 2, 1) := by decide +kernel
theorem d_L_lying_105 : decode cL_lying 105 = .ok (.aload_n 0, 1) := by decide +kernel
theorem d_L_lying_106 : decode cL_lying 106 = .ok (.aload_n 1, 1) := by decide +kernel
theorem d_L_lying_107 : decode cL_lying 107 = .ok (.invokestatic 101, 3) := by decide +kernel
theorem d_L_lying_110 : decode cL_lying 110 = .ok (.iconst (-1), 1) := by decide +kernel
theorem d_L_lying_111 : decode cL_lying 111 = .ok (.ixor, 1) := by decide +kernel
theorem d_L_lying_112 : decode cL_lying 112 = .ok (.iand, 1) := by decide +kernel
theorem d_L_lying_113 : decode cL_lying 113 = .ok (.ifCond .ne 15, 3) := by decide +kernel
theorem d_L_lying_116 : decode cL_lying 116 = .ok (.aload_n 0, 1) := by decide +kernel
theorem d_L_lying_117 : decode cL_lying 117 = .ok (.iconst 4, 1) := by decide +kernel
theorem d_L_lying_118 : decode cL_lying 118 = .ok (.invokevirtual 70, 3) := by decide +kernel
theorem d_L_lying_121 : decode cL_lying 121 = .ok (.iload_n 2, 1) := by decide +kernel
theorem d_L_lying_122 : decode cL_lying 122 = .ok (.invokestatic 91, 3) := by decide +kernel
theorem d_L_lying_125 : decode cL_lying 125 = .ok (.if_icmp .eq 7, 3) := by decide +kernel
theorem d_L_lying_128 : decode cL_lying 128 = .ok (.iconst (-1), 1) := by decide +kernel
theorem d_L_lying_129 : decode cL_lying 129 = .ok (.goto 4, 3) := by decide +kernel
theorem d_L_lying_132 : decode cL_lying 132 = .ok (.iload_n 2, 1) := by decide +kernel
theorem d_L_lying_133 : decode cL_lying 133 = .ok (.ireturn, 1) := by decide +kernel
theorem d_L_placed_0 : decode cL_placed 0 = .ok (.aload_n 0, 1) := by decide +kernel
theorem d_L_placed_1 : decode cL_placed 1 = .ok (.aload_n 1, 1) := by decide +kernel
theorem d_L_placed_2 : decode cL_placed 2 = .ok (.invokestatic 105, 3) := by decide +kernel
theorem d_L_placed_5 : decode cL_placed 5 = .ok (.istore_n 3, 1) := by decide +kernel
theorem d_L_placed_6 : decode cL_placed 6 = .ok (.aload_n 0, 1) := by decide +kernel
theorem d_L_placed_7 : decode cL_placed 7 = .ok (.iload_n 2, 1) := by decide +kernel
theorem d_L_placed_8 : decode cL_placed 8 = .ok (.invokevirtual 108, 3) := by decide +kernel
theorem d_L_placed_11 : decode cL_placed 11 = .ok (.istore 4, 2) := by decide +kernel
theorem d_L_placed_13 : decode cL_placed 13 = .ok (.aload_n 0, 1) := by decide +kernel
theorem d_L_placed_14 : decode cL_placed 14 = .ok (.aload_n 1, 1) := by decide +kernel
theorem d_L_placed_15 : decode cL_placed 15 = .ok (.invokestatic 101, 3) := by decide +kernel
theorem d_L_placed_18 : decode cL_placed 18 = .ok (.iload_n 2, 1) := by decide +kernel
theorem d_L_placed_19 : decode cL_placed 19 = .ok (.invokestatic 78, 3) := by decide +kernel
theorem d_L_placed_22 : decode cL_placed 22 = .ok (.ifCond .eq 15, 3) := by decide +kernel
theorem d_L_placed_25 : decode cL_placed 25 = .ok (.iload_n 3, 1) := by decide +kernel
theorem d_L_placed_26 : decode cL_placed 26 = .ok (.iload_n 2, 1) := by decide +kernel
theorem d_L_placed_27 : decode cL_placed 27 = .ok (.invokestatic 78, 3) := by decide +kernel
theorem d_L_placed_30 : decode cL_placed 30 = .ok (.ifCond .ne 7, 3) := by decide +kernel
theorem d_L_placed_33 : decode cL_placed 33 = .ok (.iconst 1, 1) := by decide +kernel
theorem d_L_placed_34 : decode cL_placed 34 = .ok (.goto 4, 3) := by decide +kernel
theorem d_L_placed_37 : decode cL_placed 37 = .ok (.iconst 0, 1) := by decide +kernel
theorem d_L_placed_38 : decode cL_placed 38 = .ok (.istore 5, 2) := by decide +kernel
theorem d_L_placed_40 : decode cL_placed 40 = .ok (.iload 4, 2) := by decide +kernel
theorem d_L_placed_42 : decode cL_placed 42 = .ok (.ifCond .ge 7, 3) := by decide +kernel
theorem d_L_placed_45 : decode cL_placed 45 = .ok (.iconst 1, 1) := by decide +kernel
theorem d_L_placed_46 : decode cL_placed 46 = .ok (.goto 4, 3) := by decide +kernel
theorem d_L_placed_49 : decode cL_placed 49 = .ok (.iconst 0, 1) := by decide +kernel
theorem d_L_placed_50 : decode cL_placed 50 = .ok (.iload 5, 2) := by decide +kernel
theorem d_L_placed_52 : decode cL_placed 52 = .ok (.ifCond .ne 7, 3) := by decide +kernel
theorem d_L_placed_55 : decode cL_placed 55 = .ok (.iconst 1, 1) := by decide +kernel
theorem d_L_placed_56 : decode cL_placed 56 = .ok (.goto 4, 3) := by decide +kernel
theorem d_L_placed_59 : decode cL_placed 59 = .ok (.iconst 0, 1) := by decide +kernel
theorem d_L_placed_60 : decode cL_placed 60 = .ok (.if_icmp .ne 13, 3) := by decide +kernel
theorem d_L_placed_63 : decode cL_placed 63 = .ok (.aload_n 0, 1) := by decide +kernel
theorem d_L_placed_64 : decode cL_placed 64 = .ok (.iload_n 2, 1) := by decide +kernel
theorem d_L_placed_65 : decode cL_placed 65 = .ok (.invokevirtual 111, 3) := by decide +kernel
theorem d_L_placed_68 : decode cL_placed 68 = .ok (.iload 4, 2) := by decide +kernel
theorem d_L_placed_70 : decode cL_placed 70 = .ok (.if_icmp .eq 5, 3) := by decide +kernel
theorem d_L_placed_73 : decode cL_placed 73 = .ok (.iconst 0, 1) := by decide +kernel
theorem d_L_placed_74 : decode cL_placed 74 = .ok (.ireturn, 1) := by decide +kernel
theorem d_L_placed_75 : decode cL_placed 75 = .ok (.aload_n 0, 1) := by decide +kernel
theorem d_L_placed_76 : decode cL_placed 76 = .ok (.aload_n 1, 1) := by decide +kernel
theorem d_L_placed_77 : decode cL_placed 77 = .ok (.invokestatic 105, 3) := by decide +kernel
theorem d_L_placed_80 : decode cL_placed 80 = .ok (.istore 6, 2) := by decide +kernel
theorem d_L_placed_82 : decode cL_placed 82 = .ok (.iload 4, 2) := by decide +kernel
theorem d_L_placed_84 : decode cL_placed 84 = .ok (.ifCond .le 118, 3) := by decide +kernel
theorem d_L_placed_87 : decode cL_placed 87 = .ok (.iload 6, 2) := by decide +kernel
theorem d_L_placed_89 : decode cL_placed 89 = .ok (.iload_n 3, 1) := by decide +kernel
theorem d_L_placed_90 : decode cL_placed 90 = .ok (.iconst 1, 1) := by decide +kernel
theorem d_L_placed_91 : decode cL_placed 91 = .ok (.iload_n 2, 1) := by decide +kernel
theorem d_L_placed_92 : decode cL_placed 92 = .ok (.ishl, 1) := by decide +kernel
theorem d_L_placed_93 : decode cL_placed 93 = .ok (.ior, 1) := by decide +kernel
theorem d_L_placed_94 : decode cL_placed 94 = .ok (.if_icmp .ne 24, 3) := by decide +kernel
theorem d_L_placed_97 : decode cL_placed 97 = .ok (.aload_n 0, 1) := by decide +kernel
theorem d_L_placed_98 : decode cL_placed 98 = .ok (.iconst 0, 1) := by decide +kernel
theorem d_L_placed_99 : decode cL_placed 99 = .ok (.iconst 0, 1) := by decide +kernel
theorem d_L_placed_100 : decode cL_placed 100 = .ok (.invokevirtual 114, 3) := by decide +kernel
theorem d_L_placed_103 : decode cL_placed 103 = .ok (.iload_n 2, 1) := by decide +kernel
theorem d_L_placed_104 : decode cL_placed 104 = .ok (.if_icmp .ne 14, 3) := by decide +kernel
theorem d_L_placed_107 : decode cL_placed 107 = .ok (.aload_n 0, 1) := by decide +kernel
theorem d_L_placed_108 : decode cL_placed 108 = .ok (.iload 4, 2) := by decide +kernel
theorem d_L_placed_110 : decode cL_placed 110 = .ok (.iconst 0, 1) := by decide +kernel
theorem d_L_placed_111 : decode cL_placed 111 = .ok (.invokevirtual 114, 3) := by decide +kernel
theorem d_L_placed_114 : decode cL_placed 114 = .ok (.iconst (-1), 1) := by decide +kernel
theorem d_L_placed_115 : decode cL_placed 115 = .ok (.if_icmp .eq 5, 3) := by decide +kernel
theorem d_L_placed_118 : decode cL_placed 118 = .ok (.iconst 0, 1) := by decide +kernel
theorem d_L_placed_119 : decode cL_placed 119 = .ok (.ireturn, 1) := by decide +kernel
theorem d_L_placed_120 : decode cL_placed 120 = .ok (.iconst 0, 1) := by decide +kernel
theorem d_L_placed_121 : decode cL_placed 121 = .ok (.istore 7, 2) := by decide +kernel
theorem d_L_placed_123 : decode cL_placed 123 = .ok (.iconst 0, 1) := by decide +kernel
theorem d_L_placed_124 : decode cL_placed 124 = .ok (.istore 8, 2) := by decide +kernel
theorem d_L_placed_126 : decode cL_placed 126 = .ok (.iload 8, 2) := by decide +kernel
theorem d_L_placed_128 : decode cL_placed 128 = .ok (.iload 4, 2) := by decide +kernel
theorem d_L_placed_130 : decode cL_placed 130 = .ok (.if_icmp .ge 70, 3) := by decide +kernel
theorem d_L_placed_133 : decode cL_placed 133 = .ok (.aload_n 0, 1) := by decide +kernel
theorem d_L_placed_134 : decode cL_placed 134 = .ok (.iload 8, 2) := by decide +kernel
theorem d_L_placed_136 : decode cL_placed 136 = .ok (.iconst 0, 1) := by decide +kernel
theorem d_L_placed_137 : decode cL_placed 137 = .ok (.invokevirtual 114, 3) := by decide +kernel
theorem d_L_placed_140 : decode cL_placed 140 = .ok (.istore 9, 2) := by decide +kernel
theorem d_L_placed_142 : decode cL_placed 142 = .ok (.iload 9, 2) := by decide +kernel
theorem d_L_placed_144 : decode cL_placed 144 = .ok (.ifCond .lt 39, 3) := by decide +kernel
theorem d_L_placed_147 : decode cL_placed 147 = .ok (.iload 9, 2) := by decide +kernel
theorem d_L_placed_149 : decode cL_placed 149 = .ok (.aload_n 1, 1) := by decide +kernel
theorem d_L_placed_150 : decode cL_placed 150 = .ok (.iconst 1, 1) := by decide +kernel
theorem d_L_placed_151 : decode cL_placed 151 = .ok (.iaload, 1) := by decide +kernel
theorem d_L_placed_152 : decode cL_placed 152 = .ok (.if_icmp .ge 31, 3) := by decide +kernel
theorem d_L_placed_155 : decode cL_placed 155 = .ok (.iload 7, 2) := by decide +kernel
theorem d_L_placed_157 : decode cL_placed 157 = .ok (.iload 9, 2) := by decide +kernel
theorem d_L_placed_159 : decode cL_placed 159 = .ok (.invokestatic 78, 3) := by decide +kernel
theorem d_L_placed_162 : decode cL_placed 162 = .ok (.ifCond .ne 21, 3) := by decide +kernel
theorem d_L_placed_165 : decode cL_placed 165 = .ok (.aload_n 0, 1) := by decide +kernel
theorem d_L_placed_166 : decode cL_placed 166 = .ok (.iconst 0, 1) := by decide +kernel
theorem d_L_placed_167 : decode cL_placed 167 = .ok (.iload 9, 2) := by decide +kernel
theorem d_L_placed_169 : decode cL_placed 169 = .ok (.iconst 3, 1) := by decide +kernel
theorem d_L_placed_170 : decode cL_placed 170 = .ok (.invokestatic 74, 3) := by decide +kernel
theorem d_L_placed_173 : decode cL_placed 173 = .ok (.aload_n 0, 1) := by decide +kernel
theorem d_L_placed_174 : decode cL_placed 174 = .ok (.iload 8, 2) := by decide +kernel
theorem d_L_placed_176 : decode cL_placed 176 = .ok (.iconst 1, 1) := by decide +kernel
theorem d_L_placed_177 : decode cL_placed 177 = .ok (.invokevirtual 114, 3) := by decide +kernel
theorem d_L_placed_180 : decode cL_placed 180 = .ok (.if_icmp .eq 5, 3) := by decide +kernel
theorem d_L_placed_183 : decode cL_placed 183 = .ok (.iconst 0, 1) := by decide +kernel
theorem d_L_placed_184 : decode cL_placed 184 = .ok (.ireturn, 1) := by decide +kernel
theorem d_L_placed_185 : decode cL_placed 185 = .ok (.iload 7, 2) := by decide +kernel
theorem d_L_placed_187 : decode cL_placed 187 = .ok (.iconst 1, 1) := by decide +kernel
theorem d_L_placed_188 : decode cL_placed 188 = .ok (.iload 9, 2) := by decide +kernel
theorem d_L_placed_190 : decode cL_placed 190 = .ok (.ishl, 1) := by decide +kernel
theorem d_L_placed_191 : decode cL_placed 191 = .ok (.ior, 1) := by decide +kernel
theorem d_L_placed_192 : decode cL_placed 192 = .ok (.istore 7, 2) := by decide +kernel
theorem d_L_placed_194 : decode cL_placed 194 = .ok (.iinc 8 1, 3) := by decide +kernel
theorem d_L_placed_197 : decode cL_placed 197 = .ok (.goto (-71), 3) := by decide +kernel
theorem d_L_placed_200 : decode cL_placed 200 = .ok (.iconst 1, 1) := by decide +kernel
theorem d_L_placed_201 : decode cL_placed 201 = .ok (.ireturn, 1) := by decide +kernel
theorem d_L_placed_202 : decode cL_placed 202 = .ok (.iload 6, 2) := by decide +kernel
theorem d_L_placed_204 : decode cL_placed 204 = .ok (.iload_n 3, 1) := by decide +kernel
theorem d_L_placed_205 : decode cL_placed 205 = .ok (.if_icmp .ne 58, 3) := by decide +kernel
theorem d_L_placed_208 : decode cL_placed 208 = .ok (.iload 4, 2) := by decide +kernel
theorem d_L_placed_210 : decode cL_placed 210 = .ok (.ifCond .lt 49, 3) := by decide +kernel
theorem d_L_placed_213 : decode cL_placed 213 = .ok (.aload_n 1, 1) := by decide +kernel
theorem d_L_placed_214 : decode cL_placed 214 = .ok (.aload_n 0, 1) := by decide +kernel
theorem d_L_placed_215 : decode cL_placed 215 = .ok (.invokevirtual 117, 3) := by decide +kernel
theorem d_L_placed_218 : decode cL_placed 218 = .ok (.aload_n 0, 1) := by decide +kernel
theorem d_L_placed_219 : decode cL_placed 219 = .ok (.aload_n 1, 1) := by decide +kernel
theorem d_L_placed_220 : decode cL_placed 220 = .ok (.invokestatic 101, 3) := by decide +kernel
theorem d_L_placed_223 : decode cL_placed 223 = .ok (.invokestatic 120, 3) := by decide +kernel
theorem d_L_placed_226 : decode cL_placed 226 = .ok (.aload_n 0, 1) := by decide +kernel
theorem d_L_placed_227 : decode cL_placed 227 = .ok (.iconst 2, 1) := by decide +kernel
theorem d_L_placed_228 : decode cL_placed 228 = .ok (.invokevirtual 70, 3) := by decide +kernel
theorem d_L_placed_231 : decode cL_placed 231 = .ok (.aload_n 0, 1) := by decide +kernel
theorem d_L_placed_232 : decode cL_placed 232 = .ok (.invokevirtual 117, 3) := by decide +kernel
theorem d_L_placed_235 : decode cL_placed 235 = .ok (.invokestatic 91, 3) := by decide +kernel
theorem d_L_placed_238 : decode cL_placed 238 = .ok (.iconst 1, 1) := by decide +kernel
theorem d_L_placed_239 : decode cL_placed 239 = .ok (.isub, 1) := by decide +kernel
theorem d_L_placed_240 : decode cL_placed 240 = .ok (.imul, 1) := by decide +kernel
theorem d_L_placed_241 : decode cL_placed 241 = .ok (.if_icmp .le 22, 3) := by decide +kernel
theorem d_L_placed_244 : decode cL_placed 244 = .ok (.aload_n 1, 1) := by decide +kernel
theorem d_L_placed_245 : decode cL_placed 245 = .ok (.iload_n 2, 1) := by decide +kernel
theorem d_L_placed_246 : decode cL_placed 246 = .ok (.invokestatic 82, 3) := by decide +kernel
theorem d_L_placed_249 : decode cL_placed 249 = .ok (.aload_n 0, 1) := by decide +kernel
theorem d_L_placed_250 : decode cL_placed 250 = .ok (.invokevirtual 117, 3) := by decide +kernel
theorem d_L_placed_253 : decode cL_placed 253 = .ok (.iconst (-1), 1) := by decide +kernel
theorem d_L_placed_254 : decode cL_placed 254 = .ok (.ixor, 1) := by decide +kernel
theorem d_L_placed_255 : decode cL_placed 255 = .ok (.iand, 1) := by decide +kernel
theorem d_L_placed_256 : decode cL_placed 256 = .ok (.ifCond .ne 7, 3) := by decide +kernel
theorem d_L_placed_259 : decode cL_placed 259 = .ok (.iconst 1, 1) := by decide +kernel
theorem d_L_placed_260 : decode cL_placed 260 = .ok (.goto 4, 3) := by decide +kernel
theorem d_L_placed_263 : decode cL_placed 263 = .ok (.iconst 0, 1) := by decide +kernel
theorem d_L_placed_264 : decode cL_placed 264 = .ok (.ireturn, 1) := by decide +kernel
theorem d_L_law_38 : decode code 38 = .ok (.aload_n 1, 1) := by decide +kernel
theorem d_L_law_39 : decode code 39 = .ok (.aload_n 2, 1) := by decide +kernel
theorem d_L_law_40 : decode code 40 = .ok (.aload_n 3, 1) := by decide +kernel
theorem d_L_law_41 : decode code 41 = .ok (.aload 4, 2) := by decide +kernel
theorem d_L_law_43 : decode code 43 = .ok (.bipush 7, 2) := by decide +kernel
theorem d_L_law_45 : decode code 45 = .ok (.invokestatic 142, 3) := by decide +kernel
theorem d_L_law_48 : decode code 48 = .ok (.ifCond .eq 11, 3) := by decide +kernel
theorem d_L_law_51 : decode code 51 = .ok (.aload_n 1, 1) := by decide +kernel
theorem d_L_law_52 : decode code 52 = .ok (.aload_n 3, 1) := by decide +kernel
theorem d_L_law_53 : decode code 53 = .ok (.invokestatic 146, 3) := by decide +kernel
theorem d_L_law_56 : decode code 56 = .ok (.ifCond .ne 5, 3) := by decide +kernel
theorem d_L_law_59 : decode code 59 = .ok (.iconst 0, 1) := by decide +kernel
theorem d_L_law_60 : decode code 60 = .ok (.ireturn, 1) := by decide +kernel
theorem d_L_law_61 : decode code 61 = .ok (.iconst 1, 1) := by decide +kernel
theorem d_L_law_62 : decode code 62 = .ok (.istore 5, 2) := by decide +kernel
theorem d_L_law_64 : decode code 64 = .ok (.iload 5, 2) := by decide +kernel
theorem d_L_law_66 : decode code 66 = .ok (.aload_n 0, 1) := by decide +kernel
theorem d_L_law_67 : decode code 67 = .ok (.arraylength, 1) := by decide +kernel
theorem d_L_law_68 : decode code 68 = .ok (.if_icmp .ge 419, 3) := by decide +kernel
theorem d_L_law_71 : decode code 71 = .ok (.iload 5, 2) := by decide +kernel
theorem d_L_law_73 : decode code 73 = .ok (.bipush 30, 2) := by decide +kernel
theorem d_L_law_75 : decode code 75 = .ok (.if_icmp .ge 412, 3) := by decide +kernel
theorem d_L_law_78 : decode code 78 = .ok (.aload_n 3, 1) := by decide +kernel
theorem d_L_law_79 : decode code 79 = .ok (.iconst 1, 1) := by decide +kernel
theorem d_L_law_80 : decode code 80 = .ok (.iaload, 1) := by decide +kernel
theorem d_L_law_81 : decode code 81 = .ok (.ifCond .le 406, 3) := by decide +kernel
theorem d_L_law_84 : decode code 84 = .ok (.aload_n 0, 1) := by decide +kernel
theorem d_L_law_85 : decode code 85 = .ok (.iload 5, 2) := by decide +kernel
theorem d_L_law_87 : decode code 87 = .ok (.iaload, 1) := by decide +kernel
theorem d_L_law_88 : decode code 88 = .ok (.ldc 150, 2) := by decide +kernel
theorem d_L_law_90 : decode code 90 = .ok (.iand, 1) := by decide +kernel
theorem d_L_law_91 : decode code 91 = .ok (.istore 6, 2) := by decide +kernel
theorem d_L_law_93 : decode code 93 = .ok (.iload 6, 2) := by decide +kernel
theorem d_L_law_95 : decode code 95 = .ok (.iconst 3, 1) := by decide +kernel
theorem d_L_law_96 : decode code 96 = .ok (.ishr, 1) := by decide +kernel
theorem d_L_law_97 : decode code 97 = .ok (.aload_n 3, 1) := by decide +kernel
theorem d_L_law_98 : decode code 98 = .ok (.iconst 1, 1) := by decide +kernel
theorem d_L_law_99 : decode code 99 = .ok (.iaload, 1) := by decide +kernel
theorem d_L_law_100 : decode code 100 = .ok (.irem, 1) := by decide +kernel
theorem d_L_law_101 : decode code 101 = .ok (.istore 7, 2) := by decide +kernel
theorem d_L_law_103 : decode code 103 = .ok (.iload 6, 2) := by decide +kernel
theorem d_L_law_105 : decode code 105 = .ok (.bipush 12, 2) := by decide +kernel
theorem d_L_law_107 : decode code 107 = .ok (.ishr, 1) := by decide +kernel
theorem d_L_law_108 : decode code 108 = .ok (.aload_n 3, 1) := by decide +kernel
theorem d_L_law_109 : decode code 109 = .ok (.iconst 2, 1) := by decide +kernel
theorem d_L_law_110 : decode code 110 = .ok (.iaload, 1) := by decide +kernel
theorem d_L_law_111 : decode code 111 = .ok (.irem, 1) := by decide +kernel
theorem d_L_law_112 : decode code 112 = .ok (.istore 8, 2) := by decide +kernel
theorem d_L_law_114 : decode code 114 = .ok (.aload_n 1, 1) := by decide +kernel
theorem d_L_law_115 : decode code 115 = .ok (.aload_n 3, 1) := by decide +kernel
theorem d_L_law_116 : decode code 116 = .ok (.invokestatic 105, 3) := by decide +kernel
theorem d_L_law_119 : decode code 119 = .ok (.istore 9, 2) := by decide +kernel
theorem d_L_law_121 : decode code 121 = .ok (.iload 6, 2) := by decide +kernel
theorem d_L_law_123 : decode code 123 = .ok (.bipush 7, 2) := by decide +kernel
theorem d_L_law_125 : decode code 125 = .ok (.iand, 1) := by decide +kernel
theorem d_L_law_126 : decode code 126 = .ok (.tableswitch 287 0 6 #[42, 42, 42, 54, 94, 189, 241], 42) := by decide +kernel
theorem d_L_law_168 : decode code 168 = .ok (.aload_n 1, 1) := by decide +kernel
theorem d_L_law_169 : decode code 169 = .ok (.aload_n 3, 1) := by decide +kernel
theorem d_L_law_170 : decode code 170 = .ok (.iload 7, 2) := by decide +kernel
theorem d_L_law_172 : decode code 172 = .ok (.invokestatic 151, 3) := by decide +kernel
theorem d_L_law_175 : decode code 175 = .ok (.ifCond .ne 306, 3) := by decide +kernel
theorem d_L_law_178 : decode code 178 = .ok (.iconst 0, 1) := by decide +kernel
theorem d_L_law_179 : decode code 179 = .ok (.ireturn, 1) := by decide +kernel
theorem d_L_law_180 : decode code 180 = .ok (.aload_n 1, 1) := by decide +kernel
theorem d_L_law_181 : decode code 181 = .ok (.iconst 0, 1) := by decide +kernel
theorem d_L_law_182 : decode code 182 = .ok (.iload 7, 2) := by decide +kernel
theorem d_L_law_184 : decode code 184 = .ok (.iconst 3, 1) := by decide +kernel
theorem d_L_law_185 : decode code 185 = .ok (.invokestatic 74, 3) := by decide +kernel
theorem d_L_law_188 : decode code 188 = .ok (.istore 10, 2) := by decide +kernel
theorem d_L_law_190 : decode code 190 = .ok (.aload_n 1, 1) := by decide +kernel
theorem d_L_law_191 : decode code 191 = .ok (.iload 7, 2) := by decide +kernel
theorem d_L_law_193 : decode code 193 = .ok (.invokevirtual 154, 3) := by decide +kernel
theorem d_L_law_196 : decode code 196 = .ok (.iload 10, 2) := by decide +kernel
theorem d_L_law_198 : decode code 198 = .ok (.if_icmp .ne 20, 3) := by decide +kernel
theorem d_L_law_201 : decode code 201 = .ok (.aload_n 1, 1) := by decide +kernel
theorem d_L_law_202 : decode code 202 = .ok (.aload_n 3, 1) := by decide +kernel
theorem d_L_law_203 : decode code 203 = .ok (.invokestatic 105, 3) := by decide +kernel
theorem d_L_law_206 : decode code 206 = .ok (.iload 9, 2) := by decide +kernel
theorem d_L_law_208 : decode code 208 = .ok (.iconst 1, 1) := by decide +kernel
theorem d_L_law_209 : decode code 209 = .ok (.iload 7, 2) := by decide +kernel
theorem d_L_law_211 : decode code 211 = .ok (.ishl, 1) := by decide +kernel
theorem d_L_law_212 : decode code 212 = .ok (.iconst (-1), 1) := by decide +kernel
theorem d_L_law_213 : decode code 213 = .ok (.ixor, 1) := by decide +kernel
theorem d_L_law_214 : decode code 214 = .ok (.iand, 1) := by decide +kernel
theorem d_L_law_215 : decode code 215 = .ok (.if_icmp .eq 266, 3) := by decide +kernel
theorem d_L_law_218 : decode code 218 = .ok (.iconst 0, 1) := by decide +kernel
theorem d_L_law_219 : decode code 219 = .ok (.ireturn, 1) := by decide +kernel
theorem d_L_law_220 : decode code 220 = .ok (.aload_n 1, 1) := by decide +kernel
theorem d_L_law_221 : decode code 221 = .ok (.iconst 0, 1) := by decide +kernel
theorem d_L_law_222 : decode code 222 = .ok (.iload 7, 2) := by decide +kernel
theorem d_L_law_224 : decode code 224 = .ok (.iconst 4, 1) := by decide +kernel
theorem d_L_law_225 : decode code 225 = .ok (.invokestatic 74, 3) := by decide +kernel
theorem d_L_law_228 : decode code 228 = .ok (.iconst 1, 1) := by decide +kernel
theorem d_L_law_229 : decode code 229 = .ok (.if_icmp .ne 7, 3) := by decide +kernel
theorem d_L_law_232 : decode code 232 = .ok (.iconst 1, 1) := by decide +kernel
theorem d_L_law_233 : decode code 233 = .ok (.goto 40, 3) := by decide +kernel
theorem d_L_law_236 : decode code 236 = .ok (.iload 9, 2) := by decide +kernel
theorem d_L_law_238 : decode code 238 = .ok (.iload 7, 2) := by decide +kernel
theorem d_L_law_240 : decode code 240 = .ok (.invokestatic 78, 3) := by decide +kernel
theorem d_L_law_243 : decode code 243 = .ok (.ifCond .eq 7, 3) := by decide +kernel
theorem d_L_law_246 : decode code 246 = .ok (.iconst 2, 1) := by decide +kernel
theorem d_L_law_247 : decode code 247 = .ok (.goto 26, 3) := by decide +kernel
theorem d_L_law_250 : decode code 250 = .ok (.aload_n 3, 1) := by decide +kernel
theorem d_L_law_251 : decode code 251 = .ok (.aload_n 1, 1) := by decide +kernel
theorem d_L_law_252 : decode code 252 = .ok (.iload 8, 2) := by decide +kernel
theorem d_L_law_254 : decode code 254 = .ok (.invokevirtual 94, 3) := by decide +kernel
theorem d_L_law_257 : decode code 257 = .ok (.iconst 1, 1) := by decide +kernel
theorem d_L_law_258 : decode code 258 = .ok (.iload 7, 2) := by decide +kernel
theorem d_L_law_260 : decode code 260 = .ok (.ishl, 1) := by decide +kernel
theorem d_L_law_261 : decode code 261 = .ok (.ior, 1) := by decide +kernel
theorem d_L_law_262 : decode code 262 = .ok (.invokestatic 97, 3) := by decide +kernel
theorem d_L_law_265 : decode code 265 = .ok (.ifCond .ne 7, 3) := by decide +kernel
theorem d_L_law_268 : decode code 268 = .ok (.iconst 3, 1) := by decide +kernel
theorem d_L_law_269 : decode code 269 = .ok (.goto 4, 3) := by decide +kernel
theorem d_L_law_272 : decode code 272 = .ok (.iconst 0, 1) := by decide +kernel
theorem d_L_law_273 : decode code 273 = .ok (.istore 10, 2) := by decide +kernel
theorem d_L_law_275 : decode code 275 = .ok (.aload_n 1, 1) := by decide +kernel
theorem d_L_law_276 : decode code 276 = .ok (.iload 7, 2) := by decide +kernel
theorem d_L_law_278 : decode code 278 = .ok (.iload 8, 2) := by decide +kernel
theorem d_L_law_280 : decode code 280 = .ok (.invokevirtual 157, 3) := by decide +kernel
theorem d_L_law_283 : decode code 283 = .ok (.iload 10, 2) := by decide +kernel
theorem d_L_law_285 : decode code 285 = .ok (.if_icmp .ne 28, 3) := by decide +kernel
theorem d_L_law_288 : decode code 288 = .ok (.aload_n 1, 1) := by decide +kernel
theorem d_L_law_289 : decode code 289 = .ok (.aload_n 3, 1) := by decide +kernel
theorem d_L_law_290 : decode code 290 = .ok (.invokestatic 105, 3) := by decide +kernel
theorem d_L_law_293 : decode code 293 = .ok (.iload 10, 2) := by decide +kernel
theorem d_L_law_295 : decode code 295 = .ok (.ifCond .ne 13, 3) := by decide +kernel
theorem d_L_law_298 : decode code 298 = .ok (.iload 9, 2) := by decide +kernel
theorem d_L_law_300 : decode code 300 = .ok (.iconst 1, 1) := by decide +kernel
theorem d_L_law_301 : decode code 301 = .ok (.iload 7, 2) := by decide +kernel
theorem d_L_law_303 : decode code 303 = .ok (.ishl, 1) := by decide +kernel
theorem d_L_law_304 : decode code 304 = .ok (.ior, 1) := by decide +kernel
theorem d_L_law_305 : decode code 305 = .ok (.goto 5, 3) := by decide +kernel
theorem d_L_law_308 : decode code 308 = .ok (.iload 9, 2) := by decide +kernel
theorem d_L_law_310 : decode code 310 = .ok (.if_icmp .eq 171, 3) := by decide +kernel
theorem d_L_law_313 : decode code 313 = .ok (.iconst 0, 1) := by decide +kernel
theorem d_L_law_314 : decode code 314 = .ok (.ireturn, 1) := by decide +kernel
theorem d_L_law_315 : decode code 315 = .ok (.aload_n 1, 1) := by decide +kernel
theorem d_L_law_316 : decode code 316 = .ok (.iconst 0, 1) := by decide +kernel
theorem d_L_law_317 : decode code 317 = .ok (.iload 7, 2) := by decide +kernel
theorem d_L_law_319 : decode code 319 = .ok (.iconst 4, 1) := by decide +kernel
theorem d_L_law_320 : decode code 320 = .ok (.invokestatic 74, 3) := by decide +kernel
theorem d_L_law_323 : decode code 323 = .ok (.istore 10, 2) := by decide +kernel
theorem d_L_law_325 : decode code 325 = .ok (.aload_n 1, 1) := by decide +kernel
theorem d_L_law_326 : decode code 326 = .ok (.iload 7, 2) := by decide +kernel
theorem d_L_law_328 : decode code 328 = .ok (.invokevirtual 159, 3) := by decide +kernel
theorem d_L_law_331 : decode code 331 = .ok (.iload 10, 2) := by decide +kernel
theorem d_L_law_333 : decode code 333 = .ok (.if_icmp .ne 32, 3) := by decide +kernel
theorem d_L_law_336 : decode code 336 = .ok (.aload_n 1, 1) := by decide +kernel
theorem d_L_law_337 : decode code 337 = .ok (.iconst 0, 1) := by decide +kernel
theorem d_L_law_338 : decode code 338 = .ok (.iload 7, 2) := by decide +kernel
theorem d_L_law_340 : decode code 340 = .ok (.iconst 4, 1) := by decide +kernel
theorem d_L_law_341 : decode code 341 = .ok (.invokestatic 74, 3) := by decide +kernel
theorem d_L_law_344 : decode code 344 = .ok (.iconst 1, 1) := by decide +kernel
theorem d_L_law_345 : decode code 345 = .ok (.if_icmp .ne 20, 3) := by decide +kernel
theorem d_L_law_348 : decode code 348 = .ok (.aload_n 1, 1) := by decide +kernel
theorem d_L_law_349 : decode code 349 = .ok (.aload_n 3, 1) := by decide +kernel
theorem d_L_law_350 : decode code 350 = .ok (.invokestatic 105, 3) := by decide +kernel
theorem d_L_law_353 : decode code 353 = .ok (.iload 9, 2) := by decide +kernel
theorem d_L_law_355 : decode code 355 = .ok (.iconst 1, 1) := by decide +kernel
theorem d_L_law_356 : decode code 356 = .ok (.iload 7, 2) := by decide +kernel
theorem d_L_law_358 : decode code 358 = .ok (.ishl, 1) := by decide +kernel
theorem d_L_law_359 : decode code 359 = .ok (.iconst (-1), 1) := by decide +kernel
theorem d_L_law_360 : decode code 360 = .ok (.ixor, 1) := by decide +kernel
theorem d_L_law_361 : decode code 361 = .ok (.iand, 1) := by decide +kernel
theorem d_L_law_362 : decode code 362 = .ok (.if_icmp .eq 119, 3) := by decide +kernel
theorem d_L_law_365 : decode code 365 = .ok (.iconst 0, 1) := by decide +kernel
theorem d_L_law_366 : decode code 366 = .ok (.ireturn, 1) := by decide +kernel
theorem d_L_law_367 : decode code 367 = .ok (.aload_n 1, 1) := by decide +kernel
theorem d_L_law_368 : decode code 368 = .ok (.iconst 0, 1) := by decide +kernel
theorem d_L_law_369 : decode code 369 = .ok (.iload 7, 2) := by decide +kernel
theorem d_L_law_371 : decode code 371 = .ok (.iconst 4, 1) := by decide +kernel
theorem d_L_law_372 : decode code 372 = .ok (.invokestatic 74, 3) := by decide +kernel
theorem d_L_law_375 : decode code 375 = .ok (.istore 10, 2) := by decide +kernel
theorem d_L_law_377 : decode code 377 = .ok (.aload_n 1, 1) := by decide +kernel
theorem d_L_law_378 : decode code 378 = .ok (.iload 7, 2) := by decide +kernel
theorem d_L_law_380 : decode code 380 = .ok (.invokevirtual 162, 3) := by decide +kernel
theorem d_L_law_383 : decode code 383 = .ok (.iconst 1, 1) := by decide +kernel
theorem d_L_law_384 : decode code 384 = .ok (.iload 10, 2) := by decide +kernel
theorem d_L_law_386 : decode code 386 = .ok (.isub, 1) := by decide +kernel
theorem d_L_law_387 : decode code 387 = .ok (.if_icmp .ne 24, 3) := by decide +kernel
theorem d_L_law_390 : decode code 390 = .ok (.aload_n 1, 1) := by decide +kernel
theorem d_L_law_391 : decode code 391 = .ok (.iconst 0, 1) := by decide +kernel
theorem d_L_law_392 : decode code 392 = .ok (.iload 7, 2) := by decide +kernel
theorem d_L_law_394 : decode code 394 = .ok (.iconst 4, 1) := by decide +kernel
theorem d_L_law_395 : decode code 395 = .ok (.invokestatic 74, 3) := by decide +kernel
theorem d_L_law_398 : decode code 398 = .ok (.ifCond .ne 13, 3) := by decide +kernel
theorem d_L_law_401 : decode code 401 = .ok (.aload_n 1, 1) := by decide +kernel
theorem d_L_law_402 : decode code 402 = .ok (.aload_n 3, 1) := by decide +kernel
theorem d_L_law_403 : decode code 403 = .ok (.invokestatic 105, 3) := by decide +kernel
theorem d_L_law_406 : decode code 406 = .ok (.iload 9, 2) := by decide +kernel
theorem d_L_law_408 : decode code 408 = .ok (.if_icmp .eq 73, 3) := by decide +kernel
theorem d_L_law_411 : decode code 411 = .ok (.iconst 0, 1) := by decide +kernel
theorem d_L_law_412 : decode code 412 = .ok (.ireturn, 1) := by decide +kernel
theorem d_L_law_413 : decode code 413 = .ok (.aload_n 1, 1) := by decide +kernel
theorem d_L_law_414 : decode code 414 = .ok (.invokevirtual 165, 3) := by decide +kernel
theorem d_L_law_417 : decode code 417 = .ok (.istore 10, 2) := by decide +kernel
theorem d_L_law_419 : decode code 419 = .ok (.aload_n 1, 1) := by decide +kernel
theorem d_L_law_420 : decode code 420 = .ok (.aload_n 3, 1) := by decide +kernel
theorem d_L_law_421 : decode code 421 = .ok (.invokestatic 105, 3) := by decide +kernel
theorem d_L_law_424 : decode code 424 = .ok (.istore 11, 2) := by decide +kernel
theorem d_L_law_426 : decode code 426 = .ok (.iload 11, 2) := by decide +kernel
theorem d_L_law_428 : decode code 428 = .ok (.ifCond .lt 51, 3) := by decide +kernel
theorem d_L_law_431 : decode code 431 = .ok (.iload 9, 2) := by decide +kernel
theorem d_L_law_433 : decode code 433 = .ok (.iload 11, 2) := by decide +kernel
theorem d_L_law_435 : decode code 435 = .ok (.iconst (-1), 1) := by decide +kernel
theorem d_L_law_436 : decode code 436 = .ok (.ixor, 1) := by decide +kernel
theorem d_L_law_437 : decode code 437 = .ok (.iand, 1) := by decide +kernel
theorem d_L_law_438 : decode code 438 = .ok (.ifCond .ne 41, 3) := by decide +kernel
theorem d_L_law_441 : decode code 441 = .ok (.iload 11, 2) := by decide +kernel
theorem d_L_law_443 : decode code 443 = .ok (.invokestatic 91, 3) := by decide +kernel
theorem d_L_law_446 : decode code 446 = .ok (.iload 9, 2) := by decide +kernel
theorem d_L_law_448 : decode code 448 = .ok (.invokestatic 91, 3) := by decide +kernel
theorem d_L_law_451 : decode code 451 = .ok (.iload 10, 2) := by decide +kernel
theorem d_L_law_453 : decode code 453 = .ok (.iadd, 1) := by decide +kernel
theorem d_L_law_454 : decode code 454 = .ok (.if_icmp .ne 25, 3) := by decide +kernel
theorem d_L_law_457 : decode code 457 = .ok (.iload 11, 2) := by decide +kernel
theorem d_L_law_459 : decode code 459 = .ok (.invokestatic 91, 3) := by decide +kernel
theorem d_L_law_462 : decode code 462 = .ok (.aload_n 1, 1) := by decide +kernel
theorem d_L_law_463 : decode code 463 = .ok (.aload_n 3, 1) := by decide +kernel
theorem d_L_law_464 : decode code 464 = .ok (.iconst 2, 1) := by decide +kernel
theorem d_L_law_465 : decode code 465 = .ok (.iaload, 1) := by decide +kernel
theorem d_L_law_466 : decode code 466 = .ok (.invokevirtual 126, 3) := by decide +kernel
theorem d_L_law_469 : decode code 469 = .ok (.if_icmp .ne 10, 3) := by decide +kernel
theorem d_L_law_472 : decode code 472 = .ok (.aload_n 1, 1) := by decide +kernel
theorem d_L_law_473 : decode code 473 = .ok (.invokevirtual 165, 3) := by decide +kernel
theorem d_L_law_476 : decode code 476 = .ok (.ifCond .eq 5, 3) := by decide +kernel
theorem d_L_law_479 : decode code 479 = .ok (.iconst 0, 1) := by decide +kernel
theorem d_L_law_480 : decode code 480 = .ok (.ireturn, 1) := by decide +kernel
theorem d_L_law_481 : decode code 481 = .ok (.iinc 5 1, 3) := by decide +kernel
theorem d_L_law_484 : decode code 484 = .ok (.goto (-420), 3) := by decide +kernel
theorem d_L_law_487 : decode code 487 = .ok (.aload_n 1, 1) := by decide +kernel
theorem d_L_law_488 : decode code 488 = .ok (.aload_n 3, 1) := by decide +kernel
theorem d_L_law_489 : decode code 489 = .ok (.invokestatic 105, 3) := by decide +kernel
theorem d_L_law_492 : decode code 492 = .ok (.ifCond .lt 15, 3) := by decide +kernel
theorem d_L_law_495 : decode code 495 = .ok (.aload_n 1, 1) := by decide +kernel
theorem d_L_law_496 : decode code 496 = .ok (.aload_n 3, 1) := by decide +kernel
theorem d_L_law_497 : decode code 497 = .ok (.invokestatic 146, 3) := by decide +kernel
theorem d_L_law_500 : decode code 500 = .ok (.ifCond .eq 7, 3) := by decide +kernel
theorem d_L_law_503 : decode code 503 = .ok (.iconst 1, 1) := by decide +kernel
theorem d_L_law_504 : decode code 504 = .ok (.goto 4, 3) := by decide +kernel
theorem d_L_law_507 : decode code 507 = .ok (.iconst 0, 1) := by decide +kernel
theorem d_L_law_508 : decode code 508 = .ok (.ireturn, 1) := by decide +kernel
theorem d_L_its_0 : decode cL_its 0 = .ok (.iload_n 1, 1) := by decide +kernel
theorem d_L_its_1 : decode cL_its 1 = .ok (.ifCond .ne 12, 3) := by decide +kernel
theorem d_L_its_4 : decode cL_its 4 = .ok (.aload_n 0, 1) := by decide +kernel
theorem d_L_its_5 : decode cL_its 5 = .ok (.iload_n 2, 1) := by decide +kernel
theorem d_L_its_6 : decode cL_its 6 = .ok (.iload_n 3, 1) := by decide +kernel
theorem d_L_its_7 : decode cL_its 7 = .ok (.invokevirtual 33, 3) := by decide +kernel
theorem d_L_its_10 : decode cL_its 10 = .ok (.goto 9, 3) := by decide +kernel
theorem d_L_its_13 : decode cL_its 13 = .ok (.aload_n 0, 1) := by decide +kernel
theorem d_L_its_14 : decode cL_its 14 = .ok (.iload_n 2, 1) := by decide +kernel
theorem d_L_its_15 : decode cL_its 15 = .ok (.iload_n 3, 1) := by decide +kernel
theorem d_L_its_16 : decode cL_its 16 = .ok (.invokevirtual 37, 3) := by decide +kernel
theorem d_L_its_19 : decode cL_its 19 = .ok (.ireturn, 1) := by decide +kernel
theorem d_L_its_20 : decode cL_its 20 = .ok (.astore 4, 2) := by decide +kernel
theorem d_L_its_22 : decode cL_its 22 = .ok (.sipush (-777), 3) := by decide +kernel
theorem d_L_its_25 : decode cL_its 25 = .ok (.ireturn, 1) := by decide +kernel
theorem d_L_add_0 : decode cL_add 0 = .ok (.iload_n 1, 1) := by decide +kernel
theorem d_L_add_1 : decode cL_add 1 = .ok (.istore_n 3, 1) := by decide +kernel
theorem d_L_add_2 : decode cL_add 2 = .ok (.iconst 0, 1) := by decide +kernel
theorem d_L_add_3 : decode cL_add 3 = .ok (.istore 4, 2) := by decide +kernel
theorem d_L_add_5 : decode cL_add 5 = .ok (.iload 4, 2) := by decide +kernel
theorem d_L_add_7 : decode cL_add 7 = .ok (.aload_n 2, 1) := by decide +kernel
theorem d_L_add_8 : decode cL_add 8 = .ok (.invokevirtual 7, 3) := by decide +kernel
theorem d_L_add_11 : decode cL_add 11 = .ok (.if_icmp .ge 21, 3) := by decide +kernel
theorem d_L_add_14 : decode cL_add 14 = .ok (.aload_n 0, 1) := by decide +kernel
theorem d_L_add_15 : decode cL_add 15 = .ok (.iload_n 3, 1) := by decide +kernel
theorem d_L_add_16 : decode cL_add 16 = .ok (.aload_n 2, 1) := by decide +kernel
theorem d_L_add_17 : decode cL_add 17 = .ok (.iload 4, 2) := by decide +kernel
theorem d_L_add_19 : decode cL_add 19 = .ok (.invokevirtual 13, 3) := by decide +kernel
theorem d_L_add_22 : decode cL_add 22 = .ok (.invokestatic 17, 3) := by decide +kernel
theorem d_L_add_25 : decode cL_add 25 = .ok (.istore_n 3, 1) := by decide +kernel
theorem d_L_add_26 : decode cL_add 26 = .ok (.iinc 4 1, 3) := by decide +kernel
theorem d_L_add_29 : decode cL_add 29 = .ok (.goto (-24), 3) := by decide +kernel
theorem d_L_add_32 : decode cL_add 32 = .ok (.iload_n 3, 1) := by decide +kernel
theorem d_L_add_33 : decode cL_add 33 = .ok (.ireturn, 1) := by decide +kernel
