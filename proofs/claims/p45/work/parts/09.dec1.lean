-- needs: 08.links0
theorem d_X5_become_0 : decode cX5_become 0 = .ok (.aload_n 1, 1) := by decide +kernel
theorem d_X5_become_1 : decode cX5_become 1 = .ok (.getfield 9, 3) := by decide +kernel
theorem d_X5_become_4 : decode cX5_become 4 = .ok (.iconst 0, 1) := by decide +kernel
theorem d_X5_become_5 : decode cX5_become 5 = .ok (.aload_n 0, 1) := by decide +kernel
theorem d_X5_become_6 : decode cX5_become 6 = .ok (.getfield 9, 3) := by decide +kernel
theorem d_X5_become_9 : decode cX5_become 9 = .ok (.iconst 0, 1) := by decide +kernel
theorem d_X5_become_10 : decode cX5_become 10 = .ok (.bipush 24, 2) := by decide +kernel
theorem d_X5_become_12 : decode cX5_become 12 = .ok (.invokestatic 28, 3) := by decide +kernel
theorem d_X5_become_15 : decode cX5_become 15 = .ok (.aload_n 1, 1) := by decide +kernel
theorem d_X5_become_16 : decode cX5_become 16 = .ok (.getfield 15, 3) := by decide +kernel
theorem d_X5_become_19 : decode cX5_become 19 = .ok (.iconst 0, 1) := by decide +kernel
theorem d_X5_become_20 : decode cX5_become 20 = .ok (.aload_n 0, 1) := by decide +kernel
theorem d_X5_become_21 : decode cX5_become 21 = .ok (.getfield 15, 3) := by decide +kernel
theorem d_X5_become_24 : decode cX5_become 24 = .ok (.iconst 0, 1) := by decide +kernel
theorem d_X5_become_25 : decode cX5_become 25 = .ok (.bipush 24, 2) := by decide +kernel
theorem d_X5_become_27 : decode cX5_become 27 = .ok (.invokestatic 28, 3) := by decide +kernel
theorem d_X5_become_30 : decode cX5_become 30 = .ok (.aload_n 1, 1) := by decide +kernel
theorem d_X5_become_31 : decode cX5_become 31 = .ok (.getfield 18, 3) := by decide +kernel
theorem d_X5_become_34 : decode cX5_become 34 = .ok (.iconst 0, 1) := by decide +kernel
theorem d_X5_become_35 : decode cX5_become 35 = .ok (.aload_n 0, 1) := by decide +kernel
theorem d_X5_become_36 : decode cX5_become 36 = .ok (.getfield 18, 3) := by decide +kernel
theorem d_X5_become_39 : decode cX5_become 39 = .ok (.iconst 0, 1) := by decide +kernel
theorem d_X5_become_40 : decode cX5_become 40 = .ok (.bipush 24, 2) := by decide +kernel
theorem d_X5_become_42 : decode cX5_become 42 = .ok (.invokestatic 28, 3) := by decide +kernel
theorem d_X5_become_45 : decode cX5_become 45 = .ok (.aload_n 1, 1) := by decide +kernel
theorem d_X5_become_46 : decode cX5_become 46 = .ok (.getfield 21, 3) := by decide +kernel
theorem d_X5_become_49 : decode cX5_become 49 = .ok (.iconst 0, 1) := by decide +kernel
theorem d_X5_become_50 : decode cX5_become 50 = .ok (.aload_n 0, 1) := by decide +kernel
theorem d_X5_become_51 : decode cX5_become 51 = .ok (.getfield 21, 3) := by decide +kernel
theorem d_X5_become_54 : decode cX5_become 54 = .ok (.iconst 0, 1) := by decide +kernel
theorem d_X5_become_55 : decode cX5_become 55 = .ok (.bipush 24, 2) := by decide +kernel
theorem d_X5_become_57 : decode cX5_become 57 = .ok (.invokestatic 28, 3) := by decide +kernel
theorem d_X5_become_60 : decode cX5_become 60 = .ok (.aload_n 0, 1) := by decide +kernel
theorem d_X5_become_61 : decode cX5_become 61 = .ok (.aload_n 1, 1) := by decide +kernel
theorem d_X5_become_62 : decode cX5_become 62 = .ok (.getfield 34, 3) := by decide +kernel
theorem d_X5_become_65 : decode cX5_become 65 = .ok (.putfield 34, 3) := by decide +kernel
theorem d_X5_become_68 : decode cX5_become 68 = .ok (.aload_n 0, 1) := by decide +kernel
theorem d_X5_become_69 : decode cX5_become 69 = .ok (.aload_n 1, 1) := by decide +kernel
theorem d_X5_become_70 : decode cX5_become 70 = .ok (.getfield 37, 3) := by decide +kernel
theorem d_X5_become_73 : decode cX5_become 73 = .ok (.putfield 37, 3) := by decide +kernel
theorem d_X5_become_76 : decode cX5_become 76 = .ok (.aload_n 0, 1) := by decide +kernel
theorem d_X5_become_77 : decode cX5_become 77 = .ok (.aload_n 1, 1) := by decide +kernel
theorem d_X5_become_78 : decode cX5_become 78 = .ok (.getfield 24, 3) := by decide +kernel
theorem d_X5_become_81 : decode cX5_become 81 = .ok (.putfield 24, 3) := by decide +kernel
theorem d_X5_become_84 : decode cX5_become 84 = .ok (.aload_n 0, 1) := by decide +kernel
theorem d_X5_become_85 : decode cX5_become 85 = .ok (.aload_n 1, 1) := by decide +kernel
theorem d_X5_become_86 : decode cX5_become 86 = .ok (.getfield 40, 3) := by decide +kernel
theorem d_X5_become_89 : decode cX5_become 89 = .ok (.putfield 40, 3) := by decide +kernel
theorem d_X5_become_92 : decode cX5_become 92 = .ok (.aload_n 0, 1) := by decide +kernel
theorem d_X5_become_93 : decode cX5_become 93 = .ok (.aload_n 1, 1) := by decide +kernel
theorem d_X5_become_94 : decode cX5_become 94 = .ok (.getfield 43, 3) := by decide +kernel
theorem d_X5_become_97 : decode cX5_become 97 = .ok (.putfield 43, 3) := by decide +kernel
theorem d_X5_become_100 : decode cX5_become 100 = .ok (.return_, 1) := by decide +kernel
theorem d_X9_told_0 : decode cX9_told 0 = .ok (.aload_n 0, 1) := by decide +kernel
theorem d_X9_told_1 : decode cX9_told 1 = .ok (.getfield 12, 3) := by decide +kernel
theorem d_X9_told_4 : decode cX9_told 4 = .ok (.areturn, 1) := by decide +kernel
theorem d_X10_hasRoom_0 : decode cX10_hasRoom 0 = .ok (.aload_n 0, 1) := by decide +kernel
theorem d_X10_hasRoom_1 : decode cX10_hasRoom 1 = .ok (.getfield 15, 3) := by decide +kernel
theorem d_X10_hasRoom_4 : decode cX10_hasRoom 4 = .ok (.bipush 20, 2) := by decide +kernel
theorem d_X10_hasRoom_6 : decode cX10_hasRoom 6 = .ok (.iadd, 1) := by decide +kernel
theorem d_X10_hasRoom_7 : decode cX10_hasRoom 7 = .ok (.sipush 640, 3) := by decide +kernel
theorem d_X10_hasRoom_10 : decode cX10_hasRoom 10 = .ok (.if_icmp .gt 7, 3) := by decide +kernel
theorem d_X10_hasRoom_13 : decode cX10_hasRoom 13 = .ok (.iconst 1, 1) := by decide +kernel
theorem d_X10_hasRoom_14 : decode cX10_hasRoom 14 = .ok (.goto 4, 3) := by decide +kernel
theorem d_X10_hasRoom_17 : decode cX10_hasRoom 17 = .ok (.iconst 0, 1) := by decide +kernel
theorem d_X10_hasRoom_18 : decode cX10_hasRoom 18 = .ok (.ireturn, 1) := by decide +kernel
theorem d_X10_add_0 : decode cX10_add 0 = .ok (.bipush 24, 2) := by decide +kernel
theorem d_X10_add_2 : decode cX10_add 2 = .ok (.istore_n 2, 1) := by decide +kernel
theorem d_X10_add_3 : decode cX10_add 3 = .ok (.iload_n 2, 1) := by decide +kernel
theorem d_X10_add_4 : decode cX10_add 4 = .ok (.ifCond .lt 45, 3) := by decide +kernel
theorem d_X10_add_7 : decode cX10_add 7 = .ok (.aload_n 0, 1) := by decide +kernel
theorem d_X10_add_8 : decode cX10_add 8 = .ok (.getfield 15, 3) := by decide +kernel
theorem d_X10_add_11 : decode cX10_add 11 = .ok (.sipush 640, 3) := by decide +kernel
theorem d_X10_add_14 : decode cX10_add 14 = .ok (.if_icmp .ge 35, 3) := by decide +kernel
theorem d_X10_add_17 : decode cX10_add 17 = .ok (.aload_n 0, 1) := by decide +kernel
theorem d_X10_add_18 : decode cX10_add 18 = .ok (.getfield 11, 3) := by decide +kernel
theorem d_X10_add_21 : decode cX10_add 21 = .ok (.aload_n 0, 1) := by decide +kernel
theorem d_X10_add_22 : decode cX10_add 22 = .ok (.getfield 15, 3) := by decide +kernel
theorem d_X10_add_25 : decode cX10_add 25 = .ok (.iload_n 1, 1) := by decide +kernel
theorem d_X10_add_26 : decode cX10_add 26 = .ok (.iload_n 2, 1) := by decide +kernel
theorem d_X10_add_27 : decode cX10_add 27 = .ok (.iushr, 1) := by decide +kernel
theorem d_X10_add_28 : decode cX10_add 28 = .ok (.sipush 255, 3) := by decide +kernel
theorem d_X10_add_31 : decode cX10_add 31 = .ok (.iand, 1) := by decide +kernel
theorem d_X10_add_32 : decode cX10_add 32 = .ok (.iastore, 1) := by decide +kernel
theorem d_X10_add_33 : decode cX10_add 33 = .ok (.aload_n 0, 1) := by decide +kernel
theorem d_X10_add_34 : decode cX10_add 34 = .ok (.dup, 1) := by decide +kernel
theorem d_X10_add_35 : decode cX10_add 35 = .ok (.getfield 15, 3) := by decide +kernel
theorem d_X10_add_38 : decode cX10_add 38 = .ok (.iconst 1, 1) := by decide +kernel
theorem d_X10_add_39 : decode cX10_add 39 = .ok (.iadd, 1) := by decide +kernel
theorem d_X10_add_40 : decode cX10_add 40 = .ok (.putfield 15, 3) := by decide +kernel
theorem d_X10_add_43 : decode cX10_add 43 = .ok (.iinc 2 (-8), 3) := by decide +kernel
theorem d_X10_add_46 : decode cX10_add 46 = .ok (.goto (-43), 3) := by decide +kernel
theorem d_X10_add_49 : decode cX10_add 49 = .ok (.return_, 1) := by decide +kernel
theorem d_X10_size_0 : decode cX10_size 0 = .ok (.aload_n 0, 1) := by decide +kernel
theorem d_X10_size_1 : decode cX10_size 1 = .ok (.getfield 15, 3) := by decide +kernel
theorem d_X10_size_4 : decode cX10_size 4 = .ok (.ireturn, 1) := by decide +kernel
theorem d_X11_feed_0 : decode cX11_feed 0 = .ok (.aload_n 0, 1) := by decide +kernel
theorem d_X11_feed_1 : decode cX11_feed 1 = .ok (.getfield 19, 3) := by decide +kernel
theorem d_X11_feed_4 : decode cX11_feed 4 = .ok (.invokevirtual 98, 3) := by decide +kernel
theorem d_X11_feed_7 : decode cX11_feed 7 = .ok (.ifCond .ne 5, 3) := by decide +kernel
theorem d_X11_feed_10 : decode cX11_feed 10 = .ok (.iconst (-1), 1) := by decide +kernel
theorem d_X11_feed_11 : decode cX11_feed 11 = .ok (.ireturn, 1) := by decide +kernel
theorem d_X11_feed_12 : decode cX11_feed 12 = .ok (.aload_n 0, 1) := by decide +kernel
theorem d_X11_feed_13 : decode cX11_feed 13 = .ok (.getfield 19, 3) := by decide +kernel
theorem d_X11_feed_16 : decode cX11_feed 16 = .ok (.iload_n 1, 1) := by decide +kernel
theorem d_X11_feed_17 : decode cX11_feed 17 = .ok (.invokevirtual 102, 3) := by decide +kernel
theorem d_X11_feed_20 : decode cX11_feed 20 = .ok (.aload_n 0, 1) := by decide +kernel
theorem d_X11_feed_21 : decode cX11_feed 21 = .ok (.getfield 19, 3) := by decide +kernel
theorem d_X11_feed_24 : decode cX11_feed 24 = .ok (.iload_n 2, 1) := by decide +kernel
theorem d_X11_feed_25 : decode cX11_feed 25 = .ok (.invokevirtual 102, 3) := by decide +kernel
theorem d_X11_feed_28 : decode cX11_feed 28 = .ok (.aload_n 0, 1) := by decide +kernel
theorem d_X11_feed_29 : decode cX11_feed 29 = .ok (.getfield 19, 3) := by decide +kernel
theorem d_X11_feed_32 : decode cX11_feed 32 = .ok (.iload_n 3, 1) := by decide +kernel
theorem d_X11_feed_33 : decode cX11_feed 33 = .ok (.invokevirtual 102, 3) := by decide +kernel
theorem d_X11_feed_36 : decode cX11_feed 36 = .ok (.aload_n 0, 1) := by decide +kernel
theorem d_X11_feed_37 : decode cX11_feed 37 = .ok (.getfield 19, 3) := by decide +kernel
theorem d_X11_feed_40 : decode cX11_feed 40 = .ok (.iload 4, 2) := by decide +kernel
theorem d_X11_feed_42 : decode cX11_feed 42 = .ok (.invokevirtual 102, 3) := by decide +kernel
theorem d_X11_feed_45 : decode cX11_feed 45 = .ok (.aload_n 0, 1) := by decide +kernel
theorem d_X11_feed_46 : decode cX11_feed 46 = .ok (.getfield 19, 3) := by decide +kernel
theorem d_X11_feed_49 : decode cX11_feed 49 = .ok (.iload 5, 2) := by decide +kernel
theorem d_X11_feed_51 : decode cX11_feed 51 = .ok (.invokevirtual 102, 3) := by decide +kernel
theorem d_X11_feed_54 : decode cX11_feed 54 = .ok (.aload_n 0, 1) := by decide +kernel
theorem d_X11_feed_55 : decode cX11_feed 55 = .ok (.getfield 19, 3) := by decide +kernel
theorem d_X11_feed_58 : decode cX11_feed 58 = .ok (.invokevirtual 106, 3) := by decide +kernel
theorem d_X11_feed_61 : decode cX11_feed 61 = .ok (.ireturn, 1) := by decide +kernel
theorem d_X10_cut_0 : decode cX10_cut 0 = .ok (.aload_n 0, 1) := by decide +kernel
theorem d_X10_cut_1 : decode cX10_cut 1 = .ok (.iload_n 1, 1) := by decide +kernel
theorem d_X10_cut_2 : decode cX10_cut 2 = .ok (.putfield 15, 3) := by decide +kernel
theorem d_X10_cut_5 : decode cX10_cut 5 = .ok (.return_, 1) := by decide +kernel
theorem d_X11_end_0 : decode cX11_end 0 = .ok (.iload_n 1, 1) := by decide +kernel
theorem d_X11_end_1 : decode cX11_end 1 = .ok (.ifCond .lt 14, 3) := by decide +kernel
theorem d_X11_end_4 : decode cX11_end 4 = .ok (.iload_n 1, 1) := by decide +kernel
theorem d_X11_end_5 : decode cX11_end 5 = .ok (.aload_n 0, 1) := by decide +kernel
theorem d_X11_end_6 : decode cX11_end 6 = .ok (.getfield 19, 3) := by decide +kernel
theorem d_X11_end_9 : decode cX11_end 9 = .ok (.invokevirtual 106, 3) := by decide +kernel
theorem d_X11_end_12 : decode cX11_end 12 = .ok (.if_icmp .le 5, 3) := by decide +kernel
theorem d_X11_end_15 : decode cX11_end 15 = .ok (.iconst 0, 1) := by decide +kernel
theorem d_X11_end_16 : decode cX11_end 16 = .ok (.ireturn, 1) := by decide +kernel
theorem d_X11_end_17 : decode cX11_end 17 = .ok (.aload_n 0, 1) := by decide +kernel
theorem d_X11_end_18 : decode cX11_end 18 = .ok (.getfield 19, 3) := by decide +kernel
theorem d_X11_end_21 : decode cX11_end 21 = .ok (.iload_n 1, 1) := by decide +kernel
theorem d_X11_end_22 : decode cX11_end 22 = .ok (.invokevirtual 110, 3) := by decide +kernel
theorem d_X11_end_25 : decode cX11_end 25 = .ok (.iconst 1, 1) := by decide +kernel
theorem d_X11_end_26 : decode cX11_end 26 = .ok (.ireturn, 1) := by decide +kernel
theorem d_X5_clear_0 : decode cX5_clear 0 = .ok (.aload_n 0, 1) := by decide +kernel
theorem d_X5_clear_1 : decode cX5_clear 1 = .ok (.iconst 0, 1) := by decide +kernel
theorem d_X5_clear_2 : decode cX5_clear 2 = .ok (.putfield 34, 3) := by decide +kernel
theorem d_X5_clear_5 : decode cX5_clear 5 = .ok (.aload_n 0, 1) := by decide +kernel
theorem d_X5_clear_6 : decode cX5_clear 6 = .ok (.iconst 0, 1) := by decide +kernel
theorem d_X5_clear_7 : decode cX5_clear 7 = .ok (.putfield 37, 3) := by decide +kernel
theorem d_X5_clear_10 : decode cX5_clear 10 = .ok (.aload_n 0, 1) := by decide +kernel
theorem d_X5_clear_11 : decode cX5_clear 11 = .ok (.iconst 2, 1) := by decide +kernel
theorem d_X5_clear_12 : decode cX5_clear 12 = .ok (.putfield 24, 3) := by decide +kernel
theorem d_X5_clear_15 : decode cX5_clear 15 = .ok (.aload_n 0, 1) := by decide +kernel
theorem d_X5_clear_16 : decode cX5_clear 16 = .ok (.iconst 0, 1) := by decide +kernel
theorem d_X5_clear_17 : decode cX5_clear 17 = .ok (.putfield 40, 3) := by decide +kernel
theorem d_X5_clear_20 : decode cX5_clear 20 = .ok (.aload_n 0, 1) := by decide +kernel
theorem d_X5_clear_21 : decode cX5_clear 21 = .ok (.iconst 0, 1) := by decide +kernel
theorem d_X5_clear_22 : decode cX5_clear 22 = .ok (.putfield 43, 3) := by decide +kernel
theorem d_X5_clear_25 : decode cX5_clear 25 = .ok (.return_, 1) := by decide +kernel
theorem d_X10_byteAt_0 : decode cX10_byteAt 0 = .ok (.iload_n 1, 1) := by decide +kernel
theorem d_X10_byteAt_1 : decode cX10_byteAt 1 = .ok (.ifCond .lt 11, 3) := by decide +kernel
theorem d_X10_byteAt_4 : decode cX10_byteAt 4 = .ok (.iload_n 1, 1) := by decide +kernel
theorem d_X10_byteAt_5 : decode cX10_byteAt 5 = .ok (.aload_n 0, 1) := by decide +kernel
theorem d_X10_byteAt_6 : decode cX10_byteAt 6 = .ok (.getfield 15, 3) := by decide +kernel
theorem d_X10_byteAt_9 : decode cX10_byteAt 9 = .ok (.if_icmp .lt 7, 3) := by decide +kernel
theorem d_X10_byteAt_12 : decode cX10_byteAt 12 = .ok (.iconst (-1), 1) := by decide +kernel
theorem d_X10_byteAt_13 : decode cX10_byteAt 13 = .ok (.goto 9, 3) := by decide +kernel
theorem d_X10_byteAt_16 : decode cX10_byteAt 16 = .ok (.aload_n 0, 1) := by decide +kernel
theorem d_X10_byteAt_17 : decode cX10_byteAt 17 = .ok (.getfield 11, 3) := by decide +kernel
theorem d_X10_byteAt_20 : decode cX10_byteAt 20 = .ok (.iload_n 1, 1) := by decide +kernel
theorem d_X10_byteAt_21 : decode cX10_byteAt 21 = .ok (.iaload, 1) := by decide +kernel
theorem d_X10_byteAt_22 : decode cX10_byteAt 22 = .ok (.ireturn, 1) := by decide +kernel
theorem d_X9_isBlank_0 : decode cX9_isBlank 0 = .ok (.iload_n 0, 1) := by decide +kernel
theorem d_X9_isBlank_1 : decode cX9_isBlank 1 = .ok (.bipush 32, 2) := by decide +kernel
theorem d_X9_isBlank_3 : decode cX9_isBlank 3 = .ok (.if_icmp .eq 9, 3) := by decide +kernel
theorem d_X9_isBlank_6 : decode cX9_isBlank 6 = .ok (.iload_n 0, 1) := by decide +kernel
theorem d_X9_isBlank_7 : decode cX9_isBlank 7 = .ok (.bipush 10, 2) := by decide +kernel
theorem d_X9_isBlank_9 : decode cX9_isBlank 9 = .ok (.if_icmp .ne 7, 3) := by decide +kernel
theorem d_X9_isBlank_12 : decode cX9_isBlank 12 = .ok (.iconst 1, 1) := by decide +kernel
theorem d_X9_isBlank_13 : decode cX9_isBlank 13 = .ok (.goto 4, 3) := by decide +kernel
theorem d_X9_isBlank_16 : decode cX9_isBlank 16 = .ok (.iconst 0, 1) := by decide +kernel
theorem d_X9_isBlank_17 : decode cX9_isBlank 17 = .ok (.ireturn, 1) := by decide +kernel
theorem d_X9_isLetter_0 : decode cX9_isLetter 0 = .ok (.iload_n 0, 1) := by decide +kernel
theorem d_X9_isLetter_1 : decode cX9_isLetter 1 = .ok (.bipush 97, 2) := by decide +kernel
theorem d_X9_isLetter_3 : decode cX9_isLetter 3 = .ok (.if_icmp .lt 13, 3) := by decide +kernel
theorem d_X9_isLetter_6 : decode cX9_isLetter 6 = .ok (.iload_n 0, 1) := by decide +kernel
theorem d_X9_isLetter_7 : decode cX9_isLetter 7 = .ok (.bipush 122, 2) := by decide +kernel
theorem d_X9_isLetter_9 : decode cX9_isLetter 9 = .ok (.if_icmp .gt 7, 3) := by decide +kernel
theorem d_X9_isLetter_12 : decode cX9_isLetter 12 = .ok (.iconst 1, 1) := by decide +kernel
theorem d_X9_isLetter_13 : decode cX9_isLetter 13 = .ok (.goto 4, 3) := by decide +kernel
theorem d_X9_isLetter_16 : decode cX9_isLetter 16 = .ok (.iconst 0, 1) := by decide +kernel
theorem d_X9_isLetter_17 : decode cX9_isLetter 17 = .ok (.ireturn, 1) := by decide +kernel
theorem d_X9_isDigit_0 : decode cX9_isDigit 0 = .ok (.iload_n 0, 1) := by decide +kernel
theorem d_X9_isDigit_1 : decode cX9_isDigit 1 = .ok (.bipush 48, 2) := by decide +kernel
theorem d_X9_isDigit_3 : decode cX9_isDigit 3 = .ok (.if_icmp .lt 13, 3) := by decide +kernel
theorem d_X9_isDigit_6 : decode cX9_isDigit 6 = .ok (.iload_n 0, 1) := by decide +kernel
theorem d_X9_isDigit_7 : decode cX9_isDigit 7 = .ok (.bipush 57, 2) := by decide +kernel
theorem d_X9_isDigit_9 : decode cX9_isDigit 9 = .ok (.if_icmp .gt 7, 3) := by decide +kernel
theorem d_X9_isDigit_12 : decode cX9_isDigit 12 = .ok (.iconst 1, 1) := by decide +kernel
theorem d_X9_isDigit_13 : decode cX9_isDigit 13 = .ok (.goto 4, 3) := by decide +kernel
theorem d_X9_isDigit_16 : decode cX9_isDigit 16 = .ok (.iconst 0, 1) := by decide +kernel
theorem d_X9_isDigit_17 : decode cX9_isDigit 17 = .ok (.ireturn, 1) := by decide +kernel
theorem d_X9_letterCode_0 : decode cX9_letterCode 0 = .ok (.iload_n 0, 1) := by decide +kernel
theorem d_X9_letterCode_1 : decode cX9_letterCode 1 = .ok (.bipush 97, 2) := by decide +kernel
theorem d_X9_letterCode_3 : decode cX9_letterCode 3 = .ok (.isub, 1) := by decide +kernel
theorem d_X9_letterCode_4 : decode cX9_letterCode 4 = .ok (.iconst 1, 1) := by decide +kernel
theorem d_X9_letterCode_5 : decode cX9_letterCode 5 = .ok (.iadd, 1) := by decide +kernel
theorem d_X9_letterCode_6 : decode cX9_letterCode 6 = .ok (.ireturn, 1) := by decide +kernel
theorem d_X9_readRun_0 : decode cX9_readRun 0 = .ok (.iconst 0, 1) := by decide +kernel
theorem d_X9_readRun_1 : decode cX9_readRun 1 = .ok (.istore_n 1, 1) := by decide +kernel
theorem d_X9_readRun_2 : decode cX9_readRun 2 = .ok (.iconst 0, 1) := by decide +kernel
theorem d_X9_readRun_3 : decode cX9_readRun 3 = .ok (.istore_n 2, 1) := by decide +kernel
theorem d_X9_readRun_4 : decode cX9_readRun 4 = .ok (.aload_n 0, 1) := by decide +kernel
theorem d_X9_readRun_5 : decode cX9_readRun 5 = .ok (.lconst 0, 1) := by decide +kernel
theorem d_X9_readRun_6 : decode cX9_readRun 6 = .ok (.putfield 83, 3) := by decide +kernel
theorem d_X9_readRun_9 : decode cX9_readRun 9 = .ok (.aload_n 0, 1) := by decide +kernel
theorem d_X9_readRun_10 : decode cX9_readRun 10 = .ok (.getfield 57, 3) := by decide +kernel
theorem d_X9_readRun_13 : decode cX9_readRun 13 = .ok (.aload_n 0, 1) := by decide +kernel
theorem d_X9_readRun_14 : decode cX9_readRun 14 = .ok (.getfield 42, 3) := by decide +kernel
theorem d_X9_readRun_17 : decode cX9_readRun 17 = .ok (.invokevirtual 70, 3) := by decide +kernel
theorem d_X9_readRun_20 : decode cX9_readRun 20 = .ok (.if_icmp .ge 88, 3) := by decide +kernel
theorem d_X9_readRun_23 : decode cX9_readRun 23 = .ok (.aload_n 0, 1) := by decide +kernel
theorem d_X9_readRun_24 : decode cX9_readRun 24 = .ok (.getfield 42, 3) := by decide +kernel
theorem d_X9_readRun_27 : decode cX9_readRun 27 = .ok (.aload_n 0, 1) := by decide +kernel
theorem d_X9_readRun_28 : decode cX9_readRun 28 = .ok (.getfield 57, 3) := by decide +kernel
theorem d_X9_readRun_31 : decode cX9_readRun 31 = .ok (.invokevirtual 134, 3) := by decide +kernel
theorem d_X9_readRun_34 : decode cX9_readRun 34 = .ok (.istore_n 3, 1) := by decide +kernel
theorem d_X9_readRun_35 : decode cX9_readRun 35 = .ok (.iload_n 3, 1) := by decide +kernel
theorem d_X9_readRun_36 : decode cX9_readRun 36 = .ok (.invokestatic 143, 3) := by decide +kernel
theorem d_X9_readRun_39 : decode cX9_readRun 39 = .ok (.ifCond .eq 27, 3) := by decide +kernel
theorem d_X9_readRun_42 : decode cX9_readRun 42 = .ok (.iinc 1 1, 3) := by decide +kernel
theorem d_X9_readRun_45 : decode cX9_readRun 45 = .ok (.aload_n 0, 1) := by decide +kernel
theorem d_X9_readRun_46 : decode cX9_readRun 46 = .ok (.aload_n 0, 1) := by decide +kernel
theorem d_X9_readRun_47 : decode cX9_readRun 47 = .ok (.getfield 83, 3) := by decide +kernel
theorem d_X9_readRun_50 : decode cX9_readRun 50 = .ok (.ldc2_w 146, 3) := by decide +kernel
theorem d_X9_readRun_53 : decode cX9_readRun 53 = .ok (.lmul, 1) := by decide +kernel
theorem d_X9_readRun_54 : decode cX9_readRun 54 = .ok (.iload_n 3, 1) := by decide +kernel
theorem d_X9_readRun_55 : decode cX9_readRun 55 = .ok (.invokestatic 148, 3) := by decide +kernel
theorem d_X9_readRun_58 : decode cX9_readRun 58 = .ok (.i2l, 1) := by decide +kernel
theorem d_X9_readRun_59 : decode cX9_readRun 59 = .ok (.ladd, 1) := by decide +kernel
theorem d_X9_readRun_60 : decode cX9_readRun 60 = .ok (.putfield 83, 3) := by decide +kernel
theorem d_X9_readRun_63 : decode cX9_readRun 63 = .ok (.goto 32, 3) := by decide +kernel
theorem d_X9_readRun_66 : decode cX9_readRun 66 = .ok (.iload_n 3, 1) := by decide +kernel
theorem d_X9_readRun_67 : decode cX9_readRun 67 = .ok (.invokestatic 151, 3) := by decide +kernel
theorem d_X9_readRun_70 : decode cX9_readRun 70 = .ok (.ifCond .eq 38, 3) := by decide +kernel
theorem d_X9_readRun_73 : decode cX9_readRun 73 = .ok (.iinc 2 1, 3) := by decide +kernel
theorem d_X9_readRun_76 : decode cX9_readRun 76 = .ok (.aload_n 0, 1) := by decide +kernel
theorem d_X9_readRun_77 : decode cX9_readRun 77 = .ok (.aload_n 0, 1) := by decide +kernel
theorem d_X9_readRun_78 : decode cX9_readRun 78 = .ok (.getfield 83, 3) := by decide +kernel
theorem d_X9_readRun_81 : decode cX9_readRun 81 = .ok (.ldc2_w 154, 3) := by decide +kernel
theorem d_X9_readRun_84 : decode cX9_readRun 84 = .ok (.lmul, 1) := by decide +kernel
theorem d_X9_readRun_85 : decode cX9_readRun 85 = .ok (.iload_n 3, 1) := by decide +kernel
theorem d_X9_readRun_86 : decode cX9_readRun 86 = .ok (.i2l, 1) := by decide +kernel
theorem d_X9_readRun_87 : decode cX9_readRun 87 = .ok (.ladd, 1) := by decide +kernel
theorem d_X9_readRun_88 : decode cX9_readRun 88 = .ok (.ldc2_w 156, 3) := by decide +kernel
theorem d_X9_readRun_91 : decode cX9_readRun 91 = .ok (.lsub, 1) := by decide +kernel
theorem d_X9_readRun_92 : decode cX9_readRun 92 = .ok (.putfield 83, 3) := by decide +kernel
theorem d_X9_readRun_95 : decode cX9_readRun 95 = .ok (.aload_n 0, 1) := by decide +kernel
theorem d_X9_readRun_96 : decode cX9_readRun 96 = .ok (.dup, 1) := by decide +kernel
theorem d_X9_readRun_97 : decode cX9_readRun 97 = .ok (.getfield 57, 3) := by decide +kernel
theorem d_X9_readRun_100 : decode cX9_readRun 100 = .ok (.iconst 1, 1) := by decide +kernel
theorem d_X9_readRun_101 : decode cX9_readRun 101 = .ok (.iadd, 1) := by decide +kernel
theorem d_X9_readRun_102 : decode cX9_readRun 102 = .ok (.putfield 57, 3) := by decide +kernel
theorem d_X9_readRun_105 : decode cX9_readRun 105 = .ok (.goto (-96), 3) := by decide +kernel
theorem d_X9_readRun_108 : decode cX9_readRun 108 = .ok (.aload_n 0, 1) := by decide +kernel
theorem d_X9_readRun_109 : decode cX9_readRun 109 = .ok (.iconst 4, 1) := by decide +kernel
theorem d_X9_readRun_110 : decode cX9_readRun 110 = .ok (.putfield 63, 3) := by decide +kernel
theorem d_X9_readRun_113 : decode cX9_readRun 113 = .ok (.iload_n 2, 1) := by decide +kernel
theorem d_X9_readRun_114 : decode cX9_readRun 114 = .ok (.ifCond .ne 22, 3) := by decide +kernel
theorem d_X9_readRun_117 : decode cX9_readRun 117 = .ok (.iload_n 1, 1) := by decide +kernel
theorem d_X9_readRun_118 : decode cX9_readRun 118 = .ok (.iconst 1, 1) := by decide +kernel
theorem d_X9_readRun_119 : decode cX9_readRun 119 = .ok (.if_icmp .lt 17, 3) := by decide +kernel
theorem d_X9_readRun_122 : decode cX9_readRun 122 = .ok (.iload_n 1, 1) := by decide +kernel
theorem d_X9_readRun_123 : decode cX9_readRun 123 = .ok (.bipush 7, 2) := by decide +kernel
theorem d_X9_readRun_125 : decode cX9_readRun 125 = .ok (.if_icmp .gt 11, 3) := by decide +kernel
theorem d_X9_readRun_128 : decode cX9_readRun 128 = .ok (.aload_n 0, 1) := by decide +kernel
theorem d_X9_readRun_129 : decode cX9_readRun 129 = .ok (.iconst 1, 1) := by decide +kernel
theorem d_X9_readRun_130 : decode cX9_readRun 130 = .ok (.putfield 63, 3) := by decide +kernel
theorem d_X9_readRun_133 : decode cX9_readRun 133 = .ok (.goto 22, 3) := by decide +kernel
theorem d_X9_readRun_136 : decode cX9_readRun 136 = .ok (.iload_n 1, 1) := by decide +kernel
theorem d_X9_readRun_137 : decode cX9_readRun 137 = .ok (.ifCond .ne 18, 3) := by decide +kernel
theorem d_X9_readRun_140 : decode cX9_readRun 140 = .ok (.iload_n 2, 1) := by decide +kernel
theorem d_X9_readRun_141 : decode cX9_readRun 141 = .ok (.iconst 1, 1) := by decide +kernel
theorem d_X9_readRun_142 : decode cX9_readRun 142 = .ok (.if_icmp .lt 13, 3) := by decide +kernel
theorem d_X9_readRun_145 : decode cX9_readRun 145 = .ok (.iload_n 2, 1) := by decide +kernel
theorem d_X9_readRun_146 : decode cX9_readRun 146 = .ok (.iconst 2, 1) := by decide +kernel
theorem d_X9_readRun_147 : decode cX9_readRun 147 = .ok (.if_icmp .gt 8, 3) := by decide +kernel
theorem d_X9_readRun_150 : decode cX9_readRun 150 = .ok (.aload_n 0, 1) := by decide +kernel
theorem d_X9_readRun_151 : decode cX9_readRun 151 = .ok (.iconst 2, 1) := by decide +kernel
theorem d_X9_readRun_152 : decode cX9_readRun 152 = .ok (.putfield 63, 3) := by decide +kernel
theorem d_X9_readRun_155 : decode cX9_readRun 155 = .ok (.return_, 1) := by decide +kernel
theorem d_X9_nextToken_0 : decode cX9_nextToken 0 = .ok (.aload_n 0, 1) := by decide +kernel
theorem d_X9_nextToken_1 : decode cX9_nextToken 1 = .ok (.getfield 42, 3) := by decide +kernel
theorem d_X9_nextToken_4 : decode cX9_nextToken 4 = .ok (.invokevirtual 70, 3) := by decide +kernel
theorem d_X9_nextToken_7 : decode cX9_nextToken 7 = .ok (.sipush 600, 3) := by decide +kernel
theorem d_X9_nextToken_10 : decode cX9_nextToken 10 = .ok (.invokestatic 128, 3) := by decide +kernel
theorem d_X9_nextToken_13 : decode cX9_nextToken 13 = .ok (.istore_n 1, 1) := by decide +kernel
theorem d_X9_nextToken_14 : decode cX9_nextToken 14 = .ok (.aload_n 0, 1) := by decide +kernel
theorem d_X9_nextToken_15 : decode cX9_nextToken 15 = .ok (.getfield 57, 3) := by decide +kernel
theorem d_X9_nextToken_18 : decode cX9_nextToken 18 = .ok (.iload_n 1, 1) := by decide +kernel
theorem d_X9_nextToken_19 : decode cX9_nextToken 19 = .ok (.if_icmp .ge 33, 3) := by decide +kernel
theorem d_X9_nextToken_22 : decode cX9_nextToken 22 = .ok (.aload_n 0, 1) := by decide +kernel
theorem d_X9_nextToken_23 : decode cX9_nextToken 23 = .ok (.getfield 42, 3) := by decide +kernel
theorem d_X9_nextToken_26 : decode cX9_nextToken 26 = .ok (.aload_n 0, 1) := by decide +kernel
theorem d_X9_nextToken_27 : decode cX9_nextToken 27 = .ok (.getfield 57, 3) := by decide +kernel
theorem d_X9_nextToken_30 : decode cX9_nextToken 30 = .ok (.invokevirtual 134, 3) := by decide +kernel
theorem d_X9_nextToken_33 : decode cX9_nextToken 33 = .ok (.invokestatic 137, 3) := by decide +kernel
theorem d_X9_nextToken_36 : decode cX9_nextToken 36 = .ok (.ifCond .eq 16, 3) := by decide +kernel
theorem d_X9_nextToken_39 : decode cX9_nextToken 39 = .ok (.aload_n 0, 1) := by decide +kernel
theorem d_X9_nextToken_40 : decode cX9_nextToken 40 = .ok (.dup, 1) := by decide +kernel
theorem d_X9_nextToken_41 : decode cX9_nextToken 41 = .ok (.getfield 57, 3) := by decide +kernel
theorem d_X9_nextToken_44 : decode cX9_nextToken 44 = .ok (.iconst 1, 1) := by decide +kernel
theorem d_X9_nextToken_45 : decode cX9_nextToken 45 = .ok (.iadd, 1) := by decide +kernel
theorem d_X9_nextToken_46 : decode cX9_nextToken 46 = .ok (.putfield 57, 3) := by decide +kernel
theorem d_X9_nextToken_49 : decode cX9_nextToken 49 = .ok (.goto (-35), 3) := by decide +kernel
theorem d_X9_nextToken_52 : decode cX9_nextToken 52 = .ok (.aload_n 0, 1) := by decide +kernel
theorem d_X9_nextToken_53 : decode cX9_nextToken 53 = .ok (.aload_n 0, 1) := by decide +kernel
theorem d_X9_nextToken_54 : decode cX9_nextToken 54 = .ok (.getfield 57, 3) := by decide +kernel
theorem d_X9_nextToken_57 : decode cX9_nextToken 57 = .ok (.iload_n 1, 1) := by decide +kernel
theorem d_X9_nextToken_58 : decode cX9_nextToken 58 = .ok (.invokestatic 128, 3) := by decide +kernel
theorem d_X9_nextToken_61 : decode cX9_nextToken 61 = .ok (.putfield 125, 3) := by decide +kernel
theorem d_X9_nextToken_64 : decode cX9_nextToken 64 = .ok (.aload_n 0, 1) := by decide +kernel
theorem d_X9_nextToken_65 : decode cX9_nextToken 65 = .ok (.getfield 57, 3) := by decide +kernel
theorem d_X9_nextToken_68 : decode cX9_nextToken 68 = .ok (.iload_n 1, 1) := by decide +kernel
theorem d_X9_nextToken_69 : decode cX9_nextToken 69 = .ok (.if_icmp .lt 11, 3) := by decide +kernel
theorem d_X9_nextToken_72 : decode cX9_nextToken 72 = .ok (.aload_n 0, 1) := by decide +kernel
theorem d_X9_nextToken_73 : decode cX9_nextToken 73 = .ok (.iconst 0, 1) := by decide +kernel
theorem d_X9_nextToken_74 : decode cX9_nextToken 74 = .ok (.putfield 63, 3) := by decide +kernel
theorem d_X9_nextToken_77 : decode cX9_nextToken 77 = .ok (.goto 41, 3) := by decide +kernel
theorem d_X9_nextToken_80 : decode cX9_nextToken 80 = .ok (.aload_n 0, 1) := by decide +kernel
theorem d_X9_nextToken_81 : decode cX9_nextToken 81 = .ok (.getfield 42, 3) := by decide +kernel
theorem d_X9_nextToken_84 : decode cX9_nextToken 84 = .ok (.aload_n 0, 1) := by decide +kernel
theorem d_X9_nextToken_85 : decode cX9_nextToken 85 = .ok (.getfield 57, 3) := by decide +kernel
theorem d_X9_nextToken_88 : decode cX9_nextToken 88 = .ok (.invokevirtual 134, 3) := by decide +kernel
theorem d_X9_nextToken_91 : decode cX9_nextToken 91 = .ok (.bipush 59, 2) := by decide +kernel
theorem d_X9_nextToken_93 : decode cX9_nextToken 93 = .ok (.if_icmp .ne 21, 3) := by decide +kernel
theorem d_X9_nextToken_96 : decode cX9_nextToken 96 = .ok (.aload_n 0, 1) := by decide +kernel
theorem d_X9_nextToken_97 : decode cX9_nextToken 97 = .ok (.iconst 3, 1) := by decide +kernel
theorem d_X9_nextToken_98 : decode cX9_nextToken 98 = .ok (.putfield 63, 3) := by decide +kernel
theorem d_X9_nextToken_101 : decode cX9_nextToken 101 = .ok (.aload_n 0, 1) := by decide +kernel
theorem d_X9_nextToken_102 : decode cX9_nextToken 102 = .ok (.dup, 1) := by decide +kernel
theorem d_X9_nextToken_103 : decode cX9_nextToken 103 = .ok (.getfield 57, 3) := by decide +kernel
theorem d_X9_nextToken_106 : decode cX9_nextToken 106 = .ok (.iconst 1, 1) := by decide +kernel
theorem d_X9_nextToken_107 : decode cX9_nextToken 107 = .ok (.iadd, 1) := by decide +kernel
theorem d_X9_nextToken_108 : decode cX9_nextToken 108 = .ok (.putfield 57, 3) := by decide +kernel
theorem d_X9_nextToken_111 : decode cX9_nextToken 111 = .ok (.goto 7, 3) := by decide +kernel
theorem d_X9_nextToken_114 : decode cX9_nextToken 114 = .ok (.aload_n 0, 1) := by decide +kernel
theorem d_X9_nextToken_115 : decode cX9_nextToken 115 = .ok (.invokevirtual 140, 3) := by decide +kernel
theorem d_X9_nextToken_118 : decode cX9_nextToken 118 = .ok (.return_, 1) := by decide +kernel
theorem d_X9_fail_0 : decode cX9_fail 0 = .ok (.aload_n 0, 1) := by decide +kernel
theorem d_X9_fail_1 : decode cX9_fail 1 = .ok (.iload_n 1, 1) := by decide +kernel
theorem d_X9_fail_2 : decode cX9_fail 2 = .ok (.putfield 46, 3) := by decide +kernel
theorem d_X9_fail_5 : decode cX9_fail 5 = .ok (.aload_n 0, 1) := by decide +kernel
theorem d_X9_fail_6 : decode cX9_fail 6 = .ok (.aload_n 0, 1) := by decide +kernel
theorem d_X9_fail_7 : decode cX9_fail 7 = .ok (.getfield 125, 3) := by decide +kernel
theorem d_X9_fail_10 : decode cX9_fail 10 = .ok (.putfield 80, 3) := by decide +kernel
theorem d_X9_fail_13 : decode cX9_fail 13 = .ok (.iconst 0, 1) := by decide +kernel
theorem d_X9_fail_14 : decode cX9_fail 14 = .ok (.ireturn, 1) := by decide +kernel
theorem d_X9_readNumber_0 : decode cX9_readNumber 0 = .ok (.aload_n 0, 1) := by decide +kernel
theorem d_X9_readNumber_1 : decode cX9_readNumber 1 = .ok (.invokevirtual 60, 3) := by decide +kernel
theorem d_X9_readNumber_4 : decode cX9_readNumber 4 = .ok (.aload_n 0, 1) := by decide +kernel
theorem d_X9_readNumber_5 : decode cX9_readNumber 5 = .ok (.getfield 63, 3) := by decide +kernel
theorem d_X9_readNumber_8 : decode cX9_readNumber 8 = .ok (.iconst 2, 1) := by decide +kernel
theorem d_X9_readNumber_9 : decode cX9_readNumber 9 = .ok (.if_icmp .eq 9, 3) := by decide +kernel
theorem d_X9_readNumber_12 : decode cX9_readNumber 12 = .ok (.aload_n 0, 1) := by decide +kernel
theorem d_X9_readNumber_13 : decode cX9_readNumber 13 = .ok (.iconst 1, 1) := by decide +kernel
theorem d_X9_readNumber_14 : decode cX9_readNumber 14 = .ok (.invokevirtual 76, 3) := by decide +kernel
theorem d_X9_readNumber_17 : decode cX9_readNumber 17 = .ok (.ireturn, 1) := by decide +kernel
theorem d_X9_readNumber_18 : decode cX9_readNumber 18 = .ok (.aload_n 0, 1) := by decide +kernel
theorem d_X9_readNumber_19 : decode cX9_readNumber 19 = .ok (.getfield 83, 3) := by decide +kernel
theorem d_X9_readNumber_22 : decode cX9_readNumber 22 = .ok (.lconst 1, 1) := by decide +kernel
theorem d_X9_readNumber_23 : decode cX9_readNumber 23 = .ok (.lcmp, 1) := by decide +kernel
theorem d_X9_readNumber_24 : decode cX9_readNumber 24 = .ok (.ifCond .lt 13, 3) := by decide +kernel
theorem d_X9_readNumber_27 : decode cX9_readNumber 27 = .ok (.aload_n 0, 1) := by decide +kernel
theorem d_X9_readNumber_28 : decode cX9_readNumber 28 = .ok (.getfield 83, 3) := by decide +kernel
theorem d_X9_readNumber_31 : decode cX9_readNumber 31 = .ok (.iload_n 1, 1) := by decide +kernel
theorem d_X9_readNumber_32 : decode cX9_readNumber 32 = .ok (.i2l, 1) := by decide +kernel
theorem d_X9_readNumber_33 : decode cX9_readNumber 33 = .ok (.lcmp, 1) := by decide +kernel
theorem d_X9_readNumber_34 : decode cX9_readNumber 34 = .ok (.ifCond .le 11, 3) := by decide +kernel
theorem d_X9_readNumber_37 : decode cX9_readNumber 37 = .ok (.aload_n 0, 1) := by decide +kernel
theorem d_X9_readNumber_38 : decode cX9_readNumber 38 = .ok (.iconst 2, 1) := by decide +kernel
theorem d_X9_readNumber_39 : decode cX9_readNumber 39 = .ok (.invokevirtual 76, 3) := by decide +kernel
theorem d_X9_readNumber_42 : decode cX9_readNumber 42 = .ok (.goto 4, 3) := by decide +kernel
theorem d_X9_readNumber_45 : decode cX9_readNumber 45 = .ok (.iconst 1, 1) := by decide +kernel
theorem d_X9_readNumber_46 : decode cX9_readNumber 46 = .ok (.ireturn, 1) := by decide +kernel
theorem d_X9_readSign_0 : decode cX9_readSign 0 = .ok (.aload_n 0, 1) := by decide +kernel
theorem d_X9_readSign_1 : decode cX9_readSign 1 = .ok (.invokevirtual 60, 3) := by decide +kernel
theorem d_X9_readSign_4 : decode cX9_readSign 4 = .ok (.aload_n 0, 1) := by decide +kernel
theorem d_X9_readSign_5 : decode cX9_readSign 5 = .ok (.getfield 63, 3) := by decide +kernel
theorem d_X9_readSign_8 : decode cX9_readSign 8 = .ok (.iconst 3, 1) := by decide +kernel
theorem d_X9_readSign_9 : decode cX9_readSign 9 = .ok (.if_icmp .ne 7, 3) := by decide +kernel
theorem d_X9_readSign_12 : decode cX9_readSign 12 = .ok (.iconst 1, 1) := by decide +kernel
theorem d_X9_readSign_13 : decode cX9_readSign 13 = .ok (.goto 8, 3) := by decide +kernel
theorem d_X9_readSign_16 : decode cX9_readSign 16 = .ok (.aload_n 0, 1) := by decide +kernel
theorem d_X9_readSign_17 : decode cX9_readSign 17 = .ok (.iconst 1, 1) := by decide +kernel
theorem d_X9_readSign_18 : decode cX9_readSign 18 = .ok (.invokevirtual 76, 3) := by decide +kernel
theorem d_X9_readSign_21 : decode cX9_readSign 21 = .ok (.ireturn, 1) := by decide +kernel
theorem d_X9_readForests_0 : decode cX9_readForests 0 = .ok (.aload_n 0, 1) := by decide +kernel
theorem d_X9_readForests_1 : decode cX9_readForests 1 = .ok (.getfield 53, 3) := by decide +kernel
theorem d_X9_readForests_4 : decode cX9_readForests 4 = .ok (.ifCond .eq 9, 3) := by decide +kernel
theorem d_X9_readForests_7 : decode cX9_readForests 7 = .ok (.aload_n 0, 1) := by decide +kernel
theorem d_X9_readForests_8 : decode cX9_readForests 8 = .ok (.iconst 3, 1) := by decide +kernel
theorem d_X9_readForests_9 : decode cX9_readForests 9 = .ok (.invokevirtual 76, 3) := by decide +kernel
theorem d_X9_readForests_12 : decode cX9_readForests 12 = .ok (.ireturn, 1) := by decide +kernel
theorem d_X9_readForests_13 : decode cX9_readForests 13 = .ok (.aload_n 0, 1) := by decide +kernel
theorem d_X9_readForests_14 : decode cX9_readForests 14 = .ok (.iconst 5, 1) := by decide +kernel
theorem d_X9_readForests_15 : decode cX9_readForests 15 = .ok (.invokevirtual 115, 3) := by decide +kernel
theorem d_X9_readForests_18 : decode cX9_readForests 18 = .ok (.ifCond .ne 5, 3) := by decide +kernel
theorem d_X9_readForests_21 : decode cX9_readForests 21 = .ok (.iconst 0, 1) := by decide +kernel
theorem d_X9_readForests_22 : decode cX9_readForests 22 = .ok (.ireturn, 1) := by decide +kernel
theorem d_X9_readForests_23 : decode cX9_readForests 23 = .ok (.aload_n 0, 1) := by decide +kernel
theorem d_X9_readForests_24 : decode cX9_readForests 24 = .ok (.getfield 12, 3) := by decide +kernel
theorem d_X9_readForests_27 : decode cX9_readForests 27 = .ok (.aload_n 0, 1) := by decide +kernel
theorem d_X9_readForests_28 : decode cX9_readForests 28 = .ok (.getfield 83, 3) := by decide +kernel
theorem d_X9_readForests_31 : decode cX9_readForests 31 = .ok (.l2i, 1) := by decide +kernel
theorem d_X9_readForests_32 : decode cX9_readForests 32 = .ok (.putfield 122, 3) := by decide +kernel
theorem d_X9_readForests_35 : decode cX9_readForests 35 = .ok (.aload_n 0, 1) := by decide +kernel
theorem d_X9_readForests_36 : decode cX9_readForests 36 = .ok (.iconst 1, 1) := by decide +kernel
theorem d_X9_readForests_37 : decode cX9_readForests 37 = .ok (.putfield 53, 3) := by decide +kernel
theorem d_X9_readForests_40 : decode cX9_readForests 40 = .ok (.aload_n 0, 1) := by decide +kernel
theorem d_X9_readForests_41 : decode cX9_readForests 41 = .ok (.invokevirtual 105, 3) := by decide +kernel
theorem d_X9_readForests_44 : decode cX9_readForests 44 = .ok (.ireturn, 1) := by decide +kernel
theorem d_X9_isName_0 : decode cX9_isName 0 = .ok (.aload_n 0, 1) := by decide +kernel
theorem d_X9_isName_1 : decode cX9_isName 1 = .ok (.getfield 63, 3) := by decide +kernel
theorem d_X9_isName_4 : decode cX9_isName 4 = .ok (.iconst 1, 1) := by decide +kernel
theorem d_X9_isName_5 : decode cX9_isName 5 = .ok (.if_icmp .ne 43, 3) := by decide +kernel
theorem d_X9_isName_8 : decode cX9_isName 8 = .ok (.aload_n 0, 1) := by decide +kernel
theorem d_X9_isName_9 : decode cX9_isName 9 = .ok (.getfield 83, 3) := by decide +kernel
theorem d_X9_isName_12 : decode cX9_isName 12 = .ok (.aload_n 0, 1) := by decide +kernel
theorem d_X9_isName_13 : decode cX9_isName 13 = .ok (.getfield 28, 3) := by decide +kernel
theorem d_X9_isName_16 : decode cX9_isName 16 = .ok (.lcmp, 1) := by decide +kernel
theorem d_X9_isName_17 : decode cX9_isName 17 = .ok (.ifCond .eq 31, 3) := by decide +kernel
theorem d_X9_isName_20 : decode cX9_isName 20 = .ok (.aload_n 0, 1) := by decide +kernel
theorem d_X9_isName_21 : decode cX9_isName 21 = .ok (.getfield 83, 3) := by decide +kernel
theorem d_X9_isName_24 : decode cX9_isName 24 = .ok (.aload_n 0, 1) := by decide +kernel
theorem d_X9_isName_25 : decode cX9_isName 25 = .ok (.getfield 34, 3) := by decide +kernel
theorem d_X9_isName_28 : decode cX9_isName 28 = .ok (.lcmp, 1) := by decide +kernel
theorem d_X9_isName_29 : decode cX9_isName 29 = .ok (.ifCond .eq 19, 3) := by decide +kernel
theorem d_X9_isName_32 : decode cX9_isName 32 = .ok (.aload_n 0, 1) := by decide +kernel
theorem d_X9_isName_33 : decode cX9_isName 33 = .ok (.getfield 83, 3) := by decide +kernel
theorem d_X9_isName_36 : decode cX9_isName 36 = .ok (.aload_n 0, 1) := by decide +kernel
theorem d_X9_isName_37 : decode cX9_isName 37 = .ok (.getfield 39, 3) := by decide +kernel
theorem d_X9_isName_40 : decode cX9_isName 40 = .ok (.lcmp, 1) := by decide +kernel
theorem d_X9_isName_41 : decode cX9_isName 41 = .ok (.ifCond .eq 7, 3) := by decide +kernel
theorem d_X9_isName_44 : decode cX9_isName 44 = .ok (.iconst 1, 1) := by decide +kernel
theorem d_X9_isName_45 : decode cX9_isName 45 = .ok (.goto 4, 3) := by decide +kernel
theorem d_X9_isName_48 : decode cX9_isName 48 = .ok (.iconst 0, 1) := by decide +kernel
theorem d_X9_isName_49 : decode cX9_isName 49 = .ok (.ireturn, 1) := by decide +kernel
theorem d_X9_pointOf_0 : decode cX9_pointOf 0 = .ok (.iconst 0, 1) := by decide +kernel
theorem d_X9_pointOf_1 : decode cX9_pointOf 1 = .ok (.istore_n 3, 1) := by decide +kernel
theorem d_X9_pointOf_2 : decode cX9_pointOf 2 = .ok (.iload_n 3, 1) := by decide +kernel
theorem d_X9_pointOf_3 : decode cX9_pointOf 3 = .ok (.aload_n 0, 1) := by decide +kernel
theorem d_X9_pointOf_4 : decode cX9_pointOf 4 = .ok (.getfield 12, 3) := by decide +kernel
theorem d_X9_pointOf_7 : decode cX9_pointOf 7 = .ok (.getfield 95, 3) := by decide +kernel
theorem d_X9_pointOf_10 : decode cX9_pointOf 10 = .ok (.if_icmp .ge 22, 3) := by decide +kernel
theorem d_X9_pointOf_13 : decode cX9_pointOf 13 = .ok (.aload_n 0, 1) := by decide +kernel
theorem d_X9_pointOf_14 : decode cX9_pointOf 14 = .ok (.getfield 18, 3) := by decide +kernel
theorem d_X9_pointOf_17 : decode cX9_pointOf 17 = .ok (.iload_n 3, 1) := by decide +kernel
theorem d_X9_pointOf_18 : decode cX9_pointOf 18 = .ok (.laload, 1) := by decide +kernel
theorem d_X9_pointOf_19 : decode cX9_pointOf 19 = .ok (.lload_n 1, 1) := by decide +kernel
theorem d_X9_pointOf_20 : decode cX9_pointOf 20 = .ok (.lcmp, 1) := by decide +kernel
theorem d_X9_pointOf_21 : decode cX9_pointOf 21 = .ok (.ifCond .ne 5, 3) := by decide +kernel
theorem d_X9_pointOf_24 : decode cX9_pointOf 24 = .ok (.iload_n 3, 1) := by decide +kernel
theorem d_X9_pointOf_25 : decode cX9_pointOf 25 = .ok (.ireturn, 1) := by decide +kernel
theorem d_X9_pointOf_26 : decode cX9_pointOf 26 = .ok (.iinc 3 1, 3) := by decide +kernel
theorem d_X9_pointOf_29 : decode cX9_pointOf 29 = .ok (.goto (-27), 3) := by decide +kernel
theorem d_X9_pointOf_32 : decode cX9_pointOf 32 = .ok (.iconst (-1), 1) := by decide +kernel
theorem d_X9_pointOf_33 : decode cX9_pointOf 33 = .ok (.ireturn, 1) := by decide +kernel
theorem d_X9_readEnd_0 : decode cX9_readEnd 0 = .ok (.aload_n 0, 1) := by decide +kernel
theorem d_X9_readEnd_1 : decode cX9_readEnd 1 = .ok (.invokevirtual 60, 3) := by decide +kernel
theorem d_X9_readEnd_4 : decode cX9_readEnd 4 = .ok (.aload_n 0, 1) := by decide +kernel
theorem d_X9_readEnd_5 : decode cX9_readEnd 5 = .ok (.invokevirtual 98, 3) := by decide +kernel
theorem d_X9_readEnd_8 : decode cX9_readEnd 8 = .ok (.ifCond .ne 11, 3) := by decide +kernel
theorem d_X9_readEnd_11 : decode cX9_readEnd 11 = .ok (.aload_n 0, 1) := by decide +kernel
theorem d_X9_readEnd_12 : decode cX9_readEnd 12 = .ok (.iconst 1, 1) := by decide +kernel
theorem d_X9_readEnd_13 : decode cX9_readEnd 13 = .ok (.invokevirtual 76, 3) := by decide +kernel
theorem d_X9_readEnd_16 : decode cX9_readEnd 16 = .ok (.pop, 1) := by decide +kernel
theorem d_X9_readEnd_17 : decode cX9_readEnd 17 = .ok (.iconst (-1), 1) := by decide +kernel
theorem d_X9_readEnd_18 : decode cX9_readEnd 18 = .ok (.ireturn, 1) := by decide +kernel
theorem d_X9_readEnd_19 : decode cX9_readEnd 19 = .ok (.aload_n 0, 1) := by decide +kernel
theorem d_X9_readEnd_20 : decode cX9_readEnd 20 = .ok (.aload_n 0, 1) := by decide +kernel
theorem d_X9_readEnd_21 : decode cX9_readEnd 21 = .ok (.getfield 83, 3) := by decide +kernel
theorem d_X9_readEnd_24 : decode cX9_readEnd 24 = .ok (.invokevirtual 101, 3) := by decide +kernel
theorem d_X9_readEnd_27 : decode cX9_readEnd 27 = .ok (.istore_n 2, 1) := by decide +kernel
theorem d_X9_readEnd_28 : decode cX9_readEnd 28 = .ok (.iload_n 2, 1) := by decide +kernel
theorem d_X9_readEnd_29 : decode cX9_readEnd 29 = .ok (.iconst (-1), 1) := by decide +kernel
theorem d_X9_readEnd_30 : decode cX9_readEnd 30 = .ok (.if_icmp .eq 8, 3) := by decide +kernel
theorem d_X9_readEnd_33 : decode cX9_readEnd 33 = .ok (.iload_n 2, 1) := by decide +kernel
theorem d_X9_readEnd_34 : decode cX9_readEnd 34 = .ok (.iload_n 1, 1) := by decide +kernel
theorem d_X9_readEnd_35 : decode cX9_readEnd 35 = .ok (.if_icmp .ne 11, 3) := by decide +kernel
theorem d_X9_readEnd_38 : decode cX9_readEnd 38 = .ok (.aload_n 0, 1) := by decide +kernel
theorem d_X9_readEnd_39 : decode cX9_readEnd 39 = .ok (.iconst 3, 1) := by decide +kernel
theorem d_X9_readEnd_40 : decode cX9_readEnd 40 = .ok (.invokevirtual 76, 3) := by decide +kernel
theorem d_X9_readEnd_43 : decode cX9_readEnd 43 = .ok (.pop, 1) := by decide +kernel
theorem d_X9_readEnd_44 : decode cX9_readEnd 44 = .ok (.iconst (-1), 1) := by decide +kernel
theorem d_X9_readEnd_45 : decode cX9_readEnd 45 = .ok (.ireturn, 1) := by decide +kernel
theorem d_X9_readEnd_46 : decode cX9_readEnd 46 = .ok (.iload_n 2, 1) := by decide +kernel
theorem d_X9_readEnd_47 : decode cX9_readEnd 47 = .ok (.ireturn, 1) := by decide +kernel
theorem d_X5_addLine_0 : decode cX5_addLine 0 = .ok (.aload_n 0, 1) := by decide +kernel
theorem d_X5_addLine_1 : decode cX5_addLine 1 = .ok (.getfield 37, 3) := by decide +kernel
theorem d_X5_addLine_4 : decode cX5_addLine 4 = .ok (.bipush 24, 2) := by decide +kernel
theorem d_X5_addLine_6 : decode cX5_addLine 6 = .ok (.if_icmp .lt 4, 3) := by decide +kernel
theorem d_X5_addLine_9 : decode cX5_addLine 9 = .ok (.return_, 1) := by decide +kernel
theorem d_X5_addLine_10 : decode cX5_addLine 10 = .ok (.aload_n 0, 1) := by decide +kernel
theorem d_X5_addLine_11 : decode cX5_addLine 11 = .ok (.getfield 9, 3) := by decide +kernel
theorem d_X5_addLine_14 : decode cX5_addLine 14 = .ok (.aload_n 0, 1) := by decide +kernel
theorem d_X5_addLine_15 : decode cX5_addLine 15 = .ok (.getfield 37, 3) := by decide +kernel
theorem d_X5_addLine_18 : decode cX5_addLine 18 = .ok (.iload_n 1, 1) := by decide +kernel
theorem d_X5_addLine_19 : decode cX5_addLine 19 = .ok (.iastore, 1) := by decide +kernel
theorem d_X5_addLine_20 : decode cX5_addLine 20 = .ok (.aload_n 0, 1) := by decide +kernel
theorem d_X5_addLine_21 : decode cX5_addLine 21 = .ok (.getfield 15, 3) := by decide +kernel
theorem d_X5_addLine_24 : decode cX5_addLine 24 = .ok (.aload_n 0, 1) := by decide +kernel
theorem d_X5_addLine_25 : decode cX5_addLine 25 = .ok (.getfield 37, 3) := by decide +kernel
theorem d_X5_addLine_28 : decode cX5_addLine 28 = .ok (.iload_n 2, 1) := by decide +kernel
theorem d_X5_addLine_29 : decode cX5_addLine 29 = .ok (.iastore, 1) := by decide +kernel
theorem d_X5_addLine_30 : decode cX5_addLine 30 = .ok (.aload_n 0, 1) := by decide +kernel
theorem d_X5_addLine_31 : decode cX5_addLine 31 = .ok (.getfield 18, 3) := by decide +kernel
theorem d_X5_addLine_34 : decode cX5_addLine 34 = .ok (.aload_n 0, 1) := by decide +kernel
theorem d_X5_addLine_35 : decode cX5_addLine 35 = .ok (.getfield 37, 3) := by decide +kernel
theorem d_X5_addLine_38 : decode cX5_addLine 38 = .ok (.iload_n 3, 1) := by decide +kernel
theorem d_X5_addLine_39 : decode cX5_addLine 39 = .ok (.iastore, 1) := by decide +kernel
theorem d_X5_addLine_40 : decode cX5_addLine 40 = .ok (.aload_n 0, 1) := by decide +kernel
theorem d_X5_addLine_41 : decode cX5_addLine 41 = .ok (.getfield 21, 3) := by decide +kernel
theorem d_X5_addLine_44 : decode cX5_addLine 44 = .ok (.aload_n 0, 1) := by decide +kernel
theorem d_X5_addLine_45 : decode cX5_addLine 45 = .ok (.getfield 37, 3) := by decide +kernel
theorem d_X5_addLine_48 : decode cX5_addLine 48 = .ok (.iconst (-1), 1) := by decide +kernel
theorem d_X5_addLine_49 : decode cX5_addLine 49 = .ok (.iastore, 1) := by decide +kernel
theorem d_X5_addLine_50 : decode cX5_addLine 50 = .ok (.aload_n 0, 1) := by decide +kernel
theorem d_X5_addLine_51 : decode cX5_addLine 51 = .ok (.dup, 1) := by decide +kernel
theorem d_X5_addLine_52 : decode cX5_addLine 52 = .ok (.getfield 37, 3) := by decide +kernel
theorem d_X5_addLine_55 : decode cX5_addLine 55 = .ok (.iconst 1, 1) := by decide +kernel
theorem d_X5_addLine_56 : decode cX5_addLine 56 = .ok (.iadd, 1) := by decide +kernel
theorem d_X5_addLine_57 : decode cX5_addLine 57 = .ok (.putfield 37, 3) := by decide +kernel
theorem d_X5_addLine_60 : decode cX5_addLine 60 = .ok (.return_, 1) := by decide +kernel
theorem d_X9_readLine_0 : decode cX9_readLine 0 = .ok (.aload_n 0, 1) := by decide +kernel
theorem d_X9_readLine_1 : decode cX9_readLine 1 = .ok (.getfield 12, 3) := by decide +kernel
theorem d_X9_readLine_4 : decode cX9_readLine 4 = .ok (.getfield 108, 3) := by decide +kernel
theorem d_X9_readLine_7 : decode cX9_readLine 7 = .ok (.bipush 24, 2) := by decide +kernel
theorem d_X9_readLine_9 : decode cX9_readLine 9 = .ok (.if_icmp .lt 9, 3) := by decide +kernel
theorem d_X9_readLine_12 : decode cX9_readLine 12 = .ok (.aload_n 0, 1) := by decide +kernel
theorem d_X9_readLine_13 : decode cX9_readLine 13 = .ok (.iconst 4, 1) := by decide +kernel
theorem d_X9_readLine_14 : decode cX9_readLine 14 = .ok (.invokevirtual 76, 3) := by decide +kernel
theorem d_X9_readLine_17 : decode cX9_readLine 17 = .ok (.ireturn, 1) := by decide +kernel
theorem d_X9_readLine_18 : decode cX9_readLine 18 = .ok (.aload_n 0, 1) := by decide +kernel
theorem d_X9_readLine_19 : decode cX9_readLine 19 = .ok (.iconst (-1), 1) := by decide +kernel
theorem d_X9_readLine_20 : decode cX9_readLine 20 = .ok (.invokevirtual 111, 3) := by decide +kernel
theorem d_X9_readLine_23 : decode cX9_readLine 23 = .ok (.istore_n 1, 1) := by decide +kernel
theorem d_X9_readLine_24 : decode cX9_readLine 24 = .ok (.iload_n 1, 1) := by decide +kernel
theorem d_X9_readLine_25 : decode cX9_readLine 25 = .ok (.iconst (-1), 1) := by decide +kernel
theorem d_X9_readLine_26 : decode cX9_readLine 26 = .ok (.if_icmp .ne 5, 3) := by decide +kernel
theorem d_X9_readLine_29 : decode cX9_readLine 29 = .ok (.iconst 0, 1) := by decide +kernel
theorem d_X9_readLine_30 : decode cX9_readLine 30 = .ok (.ireturn, 1) := by decide +kernel
theorem d_X9_readLine_31 : decode cX9_readLine 31 = .ok (.aload_n 0, 1) := by decide +kernel
theorem d_X9_readLine_32 : decode cX9_readLine 32 = .ok (.iload_n 1, 1) := by decide +kernel
theorem d_X9_readLine_33 : decode cX9_readLine 33 = .ok (.invokevirtual 111, 3) := by decide +kernel
theorem d_X9_readLine_36 : decode cX9_readLine 36 = .ok (.istore_n 2, 1) := by decide +kernel
theorem d_X9_readLine_37 : decode cX9_readLine 37 = .ok (.iload_n 2, 1) := by decide +kernel
theorem d_X9_readLine_38 : decode cX9_readLine 38 = .ok (.iconst (-1), 1) := by decide +kernel
theorem d_X9_readLine_39 : decode cX9_readLine 39 = .ok (.if_icmp .eq 12, 3) := by decide +kernel
theorem d_X9_readLine_42 : decode cX9_readLine 42 = .ok (.aload_n 0, 1) := by decide +kernel
theorem d_X9_readLine_43 : decode cX9_readLine 43 = .ok (.bipush 99, 2) := by decide +kernel
theorem d_X9_readLine_45 : decode cX9_readLine 45 = .ok (.invokevirtual 115, 3) := by decide +kernel
theorem d_X9_readLine_48 : decode cX9_readLine 48 = .ok (.ifCond .ne 5, 3) := by decide +kernel
theorem d_X9_readLine_51 : decode cX9_readLine 51 = .ok (.iconst 0, 1) := by decide +kernel
theorem d_X9_readLine_52 : decode cX9_readLine 52 = .ok (.ireturn, 1) := by decide +kernel
theorem d_X9_readLine_53 : decode cX9_readLine 53 = .ok (.aload_n 0, 1) := by decide +kernel
theorem d_X9_readLine_54 : decode cX9_readLine 54 = .ok (.getfield 12, 3) := by decide +kernel
theorem d_X9_readLine_57 : decode cX9_readLine 57 = .ok (.iload_n 1, 1) := by decide +kernel
theorem d_X9_readLine_58 : decode cX9_readLine 58 = .ok (.iload_n 2, 1) := by decide +kernel
theorem d_X9_readLine_59 : decode cX9_readLine 59 = .ok (.aload_n 0, 1) := by decide +kernel
theorem d_X9_readLine_60 : decode cX9_readLine 60 = .ok (.getfield 83, 3) := by decide +kernel
theorem d_X9_readLine_63 : decode cX9_readLine 63 = .ok (.l2i, 1) := by decide +kernel
theorem d_X9_readLine_64 : decode cX9_readLine 64 = .ok (.invokevirtual 118, 3) := by decide +kernel
theorem d_X9_readLine_67 : decode cX9_readLine 67 = .ok (.aload_n 0, 1) := by decide +kernel
theorem d_X9_readLine_68 : decode cX9_readLine 68 = .ok (.invokevirtual 105, 3) := by decide +kernel
theorem d_X9_readLine_71 : decode cX9_readLine 71 = .ok (.ireturn, 1) := by decide +kernel
theorem d_X9_readPoint_0 : decode cX9_readPoint 0 = .ok (.aload_n 0, 1) := by decide +kernel
theorem d_X9_readPoint_1 : decode cX9_readPoint 1 = .ok (.getfield 12, 3) := by decide +kernel
theorem d_X9_readPoint_4 : decode cX9_readPoint 4 = .ok (.getfield 95, 3) := by decide +kernel
theorem d_X9_readPoint_7 : decode cX9_readPoint 7 = .ok (.bipush 10, 2) := by decide +kernel
theorem d_X9_readPoint_9 : decode cX9_readPoint 9 = .ok (.if_icmp .lt 9, 3) := by decide +kernel
theorem d_X9_readPoint_12 : decode cX9_readPoint 12 = .ok (.aload_n 0, 1) := by decide +kernel
theorem d_X9_readPoint_13 : decode cX9_readPoint 13 = .ok (.iconst 4, 1) := by decide +kernel
theorem d_X9_readPoint_14 : decode cX9_readPoint 14 = .ok (.invokevirtual 76, 3) := by decide +kernel
theorem d_X9_readPoint_17 : decode cX9_readPoint 17 = .ok (.ireturn, 1) := by decide +kernel
theorem d_X9_readPoint_18 : decode cX9_readPoint 18 = .ok (.aload_n 0, 1) := by decide +kernel
theorem d_X9_readPoint_19 : decode cX9_readPoint 19 = .ok (.invokevirtual 60, 3) := by decide +kernel
theorem d_X9_readPoint_22 : decode cX9_readPoint 22 = .ok (.aload_n 0, 1) := by decide +kernel
theorem d_X9_readPoint_23 : decode cX9_readPoint 23 = .ok (.invokevirtual 98, 3) := by decide +kernel
theorem d_X9_readPoint_26 : decode cX9_readPoint 26 = .ok (.ifCond .ne 9, 3) := by decide +kernel
theorem d_X9_readPoint_29 : decode cX9_readPoint 29 = .ok (.aload_n 0, 1) := by decide +kernel
theorem d_X9_readPoint_30 : decode cX9_readPoint 30 = .ok (.iconst 1, 1) := by decide +kernel
theorem d_X9_readPoint_31 : decode cX9_readPoint 31 = .ok (.invokevirtual 76, 3) := by decide +kernel
theorem d_X9_readPoint_34 : decode cX9_readPoint 34 = .ok (.ireturn, 1) := by decide +kernel
theorem d_X9_readPoint_35 : decode cX9_readPoint 35 = .ok (.aload_n 0, 1) := by decide +kernel
theorem d_X9_readPoint_36 : decode cX9_readPoint 36 = .ok (.aload_n 0, 1) := by decide +kernel
theorem d_X9_readPoint_37 : decode cX9_readPoint 37 = .ok (.getfield 83, 3) := by decide +kernel
theorem d_X9_readPoint_40 : decode cX9_readPoint 40 = .ok (.invokevirtual 101, 3) := by decide +kernel
theorem d_X9_readPoint_43 : decode cX9_readPoint 43 = .ok (.iconst (-1), 1) := by decide +kernel
theorem d_X9_readPoint_44 : decode cX9_readPoint 44 = .ok (.if_icmp .eq 9, 3) := by decide +kernel
theorem d_X9_readPoint_47 : decode cX9_readPoint 47 = .ok (.aload_n 0, 1) := by decide +kernel
theorem d_X9_readPoint_48 : decode cX9_readPoint 48 = .ok (.iconst 3, 1) := by decide +kernel
theorem d_X9_readPoint_49 : decode cX9_readPoint 49 = .ok (.invokevirtual 76, 3) := by decide +kernel
theorem d_X9_readPoint_52 : decode cX9_readPoint 52 = .ok (.ireturn, 1) := by decide +kernel
theorem d_X9_readPoint_53 : decode cX9_readPoint 53 = .ok (.aload_n 0, 1) := by decide +kernel
theorem d_X9_readPoint_54 : decode cX9_readPoint 54 = .ok (.getfield 18, 3) := by decide +kernel
theorem d_X9_readPoint_57 : decode cX9_readPoint 57 = .ok (.aload_n 0, 1) := by decide +kernel
theorem d_X9_readPoint_58 : decode cX9_readPoint 58 = .ok (.getfield 12, 3) := by decide +kernel
theorem d_X9_readPoint_61 : decode cX9_readPoint 61 = .ok (.getfield 95, 3) := by decide +kernel
theorem d_X9_readPoint_64 : decode cX9_readPoint 64 = .ok (.aload_n 0, 1) := by decide +kernel
theorem d_X9_readPoint_65 : decode cX9_readPoint 65 = .ok (.getfield 83, 3) := by decide +kernel
theorem d_X9_readPoint_68 : decode cX9_readPoint 68 = .ok (.lastore, 1) := by decide +kernel
theorem d_X9_readPoint_69 : decode cX9_readPoint 69 = .ok (.aload_n 0, 1) := by decide +kernel
theorem d_X9_readPoint_70 : decode cX9_readPoint 70 = .ok (.getfield 12, 3) := by decide +kernel
theorem d_X9_readPoint_73 : decode cX9_readPoint 73 = .ok (.dup, 1) := by decide +kernel
theorem d_X9_readPoint_74 : decode cX9_readPoint 74 = .ok (.getfield 95, 3) := by decide +kernel
theorem d_X9_readPoint_77 : decode cX9_readPoint 77 = .ok (.iconst 1, 1) := by decide +kernel
theorem d_X9_readPoint_78 : decode cX9_readPoint 78 = .ok (.iadd, 1) := by decide +kernel
theorem d_X9_readPoint_79 : decode cX9_readPoint 79 = .ok (.putfield 95, 3) := by decide +kernel
theorem d_X9_readPoint_82 : decode cX9_readPoint 82 = .ok (.aload_n 0, 1) := by decide +kernel
theorem d_X9_readPoint_83 : decode cX9_readPoint 83 = .ok (.invokevirtual 105, 3) := by decide +kernel
theorem d_X9_readPoint_86 : decode cX9_readPoint 86 = .ok (.ireturn, 1) := by decide +kernel
theorem d_X9_readRow_0 : decode cX9_readRow 0 = .ok (.aload_n 0, 1) := by decide +kernel
theorem d_X9_readRow_1 : decode cX9_readRow 1 = .ok (.getfield 63, 3) := by decide +kernel
theorem d_X9_readRow_4 : decode cX9_readRow 4 = .ok (.iconst 1, 1) := by decide +kernel
theorem d_X9_readRow_5 : decode cX9_readRow 5 = .ok (.if_icmp .ne 20, 3) := by decide +kernel
theorem d_X9_readRow_8 : decode cX9_readRow 8 = .ok (.aload_n 0, 1) := by decide +kernel
theorem d_X9_readRow_9 : decode cX9_readRow 9 = .ok (.getfield 83, 3) := by decide +kernel
theorem d_X9_readRow_12 : decode cX9_readRow 12 = .ok (.aload_n 0, 1) := by decide +kernel
theorem d_X9_readRow_13 : decode cX9_readRow 13 = .ok (.getfield 28, 3) := by decide +kernel
theorem d_X9_readRow_16 : decode cX9_readRow 16 = .ok (.lcmp, 1) := by decide +kernel
theorem d_X9_readRow_17 : decode cX9_readRow 17 = .ok (.ifCond .ne 8, 3) := by decide +kernel
theorem d_X9_readRow_20 : decode cX9_readRow 20 = .ok (.aload_n 0, 1) := by decide +kernel
theorem d_X9_readRow_21 : decode cX9_readRow 21 = .ok (.invokevirtual 86, 3) := by decide +kernel
theorem d_X9_readRow_24 : decode cX9_readRow 24 = .ok (.ireturn, 1) := by decide +kernel
theorem d_X9_readRow_25 : decode cX9_readRow 25 = .ok (.aload_n 0, 1) := by decide +kernel
theorem d_X9_readRow_26 : decode cX9_readRow 26 = .ok (.getfield 63, 3) := by decide +kernel
theorem d_X9_readRow_29 : decode cX9_readRow 29 = .ok (.iconst 1, 1) := by decide +kernel
theorem d_X9_readRow_30 : decode cX9_readRow 30 = .ok (.if_icmp .ne 20, 3) := by decide +kernel
theorem d_X9_readRow_33 : decode cX9_readRow 33 = .ok (.aload_n 0, 1) := by decide +kernel
theorem d_X9_readRow_34 : decode cX9_readRow 34 = .ok (.getfield 83, 3) := by decide +kernel
theorem d_X9_readRow_37 : decode cX9_readRow 37 = .ok (.aload_n 0, 1) := by decide +kernel
theorem d_X9_readRow_38 : decode cX9_readRow 38 = .ok (.getfield 34, 3) := by decide +kernel
theorem d_X9_readRow_41 : decode cX9_readRow 41 = .ok (.lcmp, 1) := by decide +kernel
theorem d_X9_readRow_42 : decode cX9_readRow 42 = .ok (.ifCond .ne 8, 3) := by decide +kernel
theorem d_X9_readRow_45 : decode cX9_readRow 45 = .ok (.aload_n 0, 1) := by decide +kernel
theorem d_X9_readRow_46 : decode cX9_readRow 46 = .ok (.invokevirtual 89, 3) := by decide +kernel
theorem d_X9_readRow_49 : decode cX9_readRow 49 = .ok (.ireturn, 1) := by decide +kernel
theorem d_X9_readRow_50 : decode cX9_readRow 50 = .ok (.aload_n 0, 1) := by decide +kernel
theorem d_X9_readRow_51 : decode cX9_readRow 51 = .ok (.getfield 63, 3) := by decide +kernel
theorem d_X9_readRow_54 : decode cX9_readRow 54 = .ok (.iconst 1, 1) := by decide +kernel
theorem d_X9_readRow_55 : decode cX9_readRow 55 = .ok (.if_icmp .ne 20, 3) := by decide +kernel
theorem d_X9_readRow_58 : decode cX9_readRow 58 = .ok (.aload_n 0, 1) := by decide +kernel
theorem d_X9_readRow_59 : decode cX9_readRow 59 = .ok (.getfield 83, 3) := by decide +kernel
theorem d_X9_readRow_62 : decode cX9_readRow 62 = .ok (.aload_n 0, 1) := by decide +kernel
theorem d_X9_readRow_63 : decode cX9_readRow 63 = .ok (.getfield 39, 3) := by decide +kernel
theorem d_X9_readRow_66 : decode cX9_readRow 66 = .ok (.lcmp, 1) := by decide +kernel
theorem d_X9_readRow_67 : decode cX9_readRow 67 = .ok (.ifCond .ne 8, 3) := by decide +kernel
theorem d_X9_readRow_70 : decode cX9_readRow 70 = .ok (.aload_n 0, 1) := by decide +kernel
theorem d_X9_readRow_71 : decode cX9_readRow 71 = .ok (.invokevirtual 92, 3) := by decide +kernel
theorem d_X9_readRow_74 : decode cX9_readRow 74 = .ok (.ireturn, 1) := by decide +kernel
theorem d_X9_readRow_75 : decode cX9_readRow 75 = .ok (.aload_n 0, 1) := by decide +kernel
theorem d_X9_readRow_76 : decode cX9_readRow 76 = .ok (.iconst 1, 1) := by decide +kernel
theorem d_X9_readRow_77 : decode cX9_readRow 77 = .ok (.invokevirtual 76, 3) := by decide +kernel
theorem d_X9_readRow_80 : decode cX9_readRow 80 = .ok (.ireturn, 1) := by decide +kernel
theorem d_X9_read_0 : decode cX9_read 0 = .ok (.aload_n 0, 1) := by decide +kernel
theorem d_X9_read_1 : decode cX9_read 1 = .ok (.getfield 12, 3) := by decide +kernel
theorem d_X9_read_4 : decode cX9_read 4 = .ok (.invokevirtual 50, 3) := by decide +kernel
theorem d_X9_read_7 : decode cX9_read 7 = .ok (.aload_n 0, 1) := by decide +kernel
theorem d_X9_read_8 : decode cX9_read 8 = .ok (.iconst 0, 1) := by decide +kernel
theorem d_X9_read_9 : decode cX9_read 9 = .ok (.putfield 53, 3) := by decide +kernel
theorem d_X9_read_12 : decode cX9_read 12 = .ok (.aload_n 0, 1) := by decide +kernel
theorem d_X9_read_13 : decode cX9_read 13 = .ok (.iconst 0, 1) := by decide +kernel
theorem d_X9_read_14 : decode cX9_read 14 = .ok (.putfield 57, 3) := by decide +kernel
theorem d_X9_read_17 : decode cX9_read 17 = .ok (.aload_n 0, 1) := by decide +kernel
theorem d_X9_read_18 : decode cX9_read 18 = .ok (.iconst 0, 1) := by decide +kernel
theorem d_X9_read_19 : decode cX9_read 19 = .ok (.putfield 46, 3) := by decide +kernel
theorem d_X9_read_22 : decode cX9_read 22 = .ok (.iconst 0, 1) := by decide +kernel
theorem d_X9_read_23 : decode cX9_read 23 = .ok (.istore_n 1, 1) := by decide +kernel
theorem d_X9_read_24 : decode cX9_read 24 = .ok (.iconst 0, 1) := by decide +kernel
theorem d_X9_read_25 : decode cX9_read 25 = .ok (.istore_n 2, 1) := by decide +kernel
theorem d_X9_read_26 : decode cX9_read 26 = .ok (.iload_n 2, 1) := by decide +kernel
theorem d_X9_read_27 : decode cX9_read 27 = .ok (.sipush 600, 3) := by decide +kernel
theorem d_X9_read_30 : decode cX9_read 30 = .ok (.if_icmp .gt 33, 3) := by decide +kernel
theorem d_X9_read_33 : decode cX9_read 33 = .ok (.aload_n 0, 1) := by decide +kernel
theorem d_X9_read_34 : decode cX9_read 34 = .ok (.invokevirtual 60, 3) := by decide +kernel
theorem d_X9_read_37 : decode cX9_read 37 = .ok (.aload_n 0, 1) := by decide +kernel
theorem d_X9_read_38 : decode cX9_read 38 = .ok (.getfield 63, 3) := by decide +kernel
theorem d_X9_read_41 : decode cX9_read 41 = .ok (.ifCond .eq 22, 3) := by decide +kernel
theorem d_X9_read_44 : decode cX9_read 44 = .ok (.aload_n 0, 1) := by decide +kernel
theorem d_X9_read_45 : decode cX9_read 45 = .ok (.invokevirtual 66, 3) := by decide +kernel
theorem d_X9_read_48 : decode cX9_read 48 = .ok (.ifCond .ne 6, 3) := by decide +kernel
theorem d_X9_read_51 : decode cX9_read 51 = .ok (.goto 12, 3) := by decide +kernel
theorem d_X9_read_54 : decode cX9_read 54 = .ok (.iinc 1 1, 3) := by decide +kernel
theorem d_X9_read_57 : decode cX9_read 57 = .ok (.iinc 2 1, 3) := by decide +kernel
theorem d_X9_read_60 : decode cX9_read 60 = .ok (.goto (-34), 3) := by decide +kernel
theorem d_X9_read_63 : decode cX9_read 63 = .ok (.aload_n 0, 1) := by decide +kernel
theorem d_X9_read_64 : decode cX9_read 64 = .ok (.getfield 46, 3) := by decide +kernel
theorem d_X9_read_67 : decode cX9_read 67 = .ok (.ifCond .ne 22, 3) := by decide +kernel
theorem d_X9_read_70 : decode cX9_read 70 = .ok (.aload_n 0, 1) := by decide +kernel
theorem d_X9_read_71 : decode cX9_read 71 = .ok (.getfield 42, 3) := by decide +kernel
theorem d_X9_read_74 : decode cX9_read 74 = .ok (.invokevirtual 70, 3) := by decide +kernel
theorem d_X9_read_77 : decode cX9_read 77 = .ok (.sipush 600, 3) := by decide +kernel
theorem d_X9_read_80 : decode cX9_read 80 = .ok (.if_icmp .le 9, 3) := by decide +kernel
theorem d_X9_read_83 : decode cX9_read 83 = .ok (.aload_n 0, 1) := by decide +kernel
theorem d_X9_read_84 : decode cX9_read 84 = .ok (.iconst 1, 1) := by decide +kernel
theorem d_X9_read_85 : decode cX9_read 85 = .ok (.invokevirtual 76, 3) := by decide +kernel
theorem d_X9_read_88 : decode cX9_read 88 = .ok (.pop, 1) := by decide +kernel
theorem d_X9_read_89 : decode cX9_read 89 = .ok (.aload_n 0, 1) := by decide +kernel
theorem d_X9_read_90 : decode cX9_read 90 = .ok (.getfield 46, 3) := by decide +kernel
theorem d_X9_read_93 : decode cX9_read 93 = .ok (.ifCond .ne 7, 3) := by decide +kernel
theorem d_X9_read_96 : decode cX9_read 96 = .ok (.iload_n 1, 1) := by decide +kernel
theorem d_X9_read_97 : decode cX9_read 97 = .ok (.goto 9, 3) := by decide +kernel
theorem d_X9_read_100 : decode cX9_read 100 = .ok (.iconst (-1), 1) := by decide +kernel
theorem d_X9_read_101 : decode cX9_read 101 = .ok (.aload_n 0, 1) := by decide +kernel
theorem d_X9_read_102 : decode cX9_read 102 = .ok (.getfield 80, 3) := by decide +kernel
theorem d_X9_read_105 : decode cX9_read 105 = .ok (.isub, 1) := by decide +kernel
theorem d_X9_read_106 : decode cX9_read 106 = .ok (.ireturn, 1) := by decide +kernel
theorem d_X0_forget_0 : decode cX0_forget 0 = .ok (.aload_n 0, 1) := by decide +kernel
theorem d_X0_forget_1 : decode cX0_forget 1 = .ok (.iconst 0, 1) := by decide +kernel
theorem d_X0_forget_2 : decode cX0_forget 2 = .ok (.putfield 28, 3) := by decide +kernel
theorem d_X0_forget_5 : decode cX0_forget 5 = .ok (.return_, 1) := by decide +kernel
theorem d_X11_net_0 : decode cX11_net 0 = .ok (.aload_n 0, 1) := by decide +kernel
theorem d_X11_net_1 : decode cX11_net 1 = .ok (.getfield 28, 3) := by decide +kernel
theorem d_X11_net_4 : decode cX11_net 4 = .ok (.invokevirtual 113, 3) := by decide +kernel
theorem d_X11_net_7 : decode cX11_net 7 = .ok (.istore_n 1, 1) := by decide +kernel
theorem d_X11_net_8 : decode cX11_net 8 = .ok (.aload_n 0, 1) := by decide +kernel
theorem d_X11_net_9 : decode cX11_net 9 = .ok (.getfield 19, 3) := by decide +kernel
theorem d_X11_net_12 : decode cX11_net 12 = .ok (.iconst 0, 1) := by decide +kernel
theorem d_X11_net_13 : decode cX11_net 13 = .ok (.invokevirtual 110, 3) := by decide +kernel
theorem d_X11_net_16 : decode cX11_net 16 = .ok (.iload_n 1, 1) := by decide +kernel
theorem d_X11_net_17 : decode cX11_net 17 = .ok (.ifCond .lt 24, 3) := by decide +kernel
theorem d_X11_net_20 : decode cX11_net 20 = .ok (.aload_n 0, 1) := by decide +kernel
theorem d_X11_net_21 : decode cX11_net 21 = .ok (.getfield 10, 3) := by decide +kernel
theorem d_X11_net_24 : decode cX11_net 24 = .ok (.aload_n 0, 1) := by decide +kernel
theorem d_X11_net_25 : decode cX11_net 25 = .ok (.getfield 28, 3) := by decide +kernel
theorem d_X11_net_28 : decode cX11_net 28 = .ok (.invokevirtual 116, 3) := by decide +kernel
theorem d_X11_net_31 : decode cX11_net 31 = .ok (.invokevirtual 120, 3) := by decide +kernel
theorem d_X11_net_34 : decode cX11_net 34 = .ok (.aload_n 0, 1) := by decide +kernel
theorem d_X11_net_35 : decode cX11_net 35 = .ok (.getfield 37, 3) := by decide +kernel
theorem d_X11_net_38 : decode cX11_net 38 = .ok (.invokevirtual 123, 3) := by decide +kernel
theorem d_X11_net_41 : decode cX11_net 41 = .ok (.iload_n 1, 1) := by decide +kernel
theorem d_X11_net_42 : decode cX11_net 42 = .ok (.ireturn, 1) := by decide +kernel
theorem d_X9_faultKind_0 : decode cX9_faultKind 0 = .ok (.aload_n 0, 1) := by decide +kernel
theorem d_X9_faultKind_1 : decode cX9_faultKind 1 = .ok (.getfield 46, 3) := by decide +kernel
theorem d_X9_faultKind_4 : decode cX9_faultKind 4 = .ok (.ireturn, 1) := by decide +kernel
theorem d_X11_fault_0 : decode cX11_fault 0 = .ok (.aload_n 0, 1) := by decide +kernel
theorem d_X11_fault_1 : decode cX11_fault 1 = .ok (.getfield 28, 3) := by decide +kernel
theorem d_X11_fault_4 : decode cX11_fault 4 = .ok (.invokevirtual 126, 3) := by decide +kernel
theorem d_X11_fault_7 : decode cX11_fault 7 = .ok (.ireturn, 1) := by decide +kernel
theorem d_X5_hasForest_0 : decode cX5_hasForest 0 = .ok (.iload_n 1, 1) := by decide +kernel
theorem d_X5_hasForest_1 : decode cX5_hasForest 1 = .ok (.ifCond .lt 15, 3) := by decide +kernel
theorem d_X5_hasForest_4 : decode cX5_hasForest 4 = .ok (.iload_n 1, 1) := by decide +kernel
theorem d_X5_hasForest_5 : decode cX5_hasForest 5 = .ok (.aload_n 0, 1) := by decide +kernel
theorem d_X5_hasForest_6 : decode cX5_hasForest 6 = .ok (.getfield 24, 3) := by decide +kernel
theorem d_X5_hasForest_9 : decode cX5_hasForest 9 = .ok (.if_icmp .ge 7, 3) := by decide +kernel
theorem d_X5_hasForest_12 : decode cX5_hasForest 12 = .ok (.iconst 1, 1) := by decide +kernel
theorem d_X5_hasForest_13 : decode cX5_hasForest 13 = .ok (.goto 4, 3) := by decide +kernel
theorem d_X5_hasForest_16 : decode cX5_hasForest 16 = .ok (.iconst 0, 1) := by decide +kernel
theorem d_X5_hasForest_17 : decode cX5_hasForest 17 = .ok (.ireturn, 1) := by decide +kernel
theorem d_X5_forestSet_0 : decode cX5_forestSet 0 = .ok (.iconst 0, 1) := by decide +kernel
theorem d_X5_forestSet_1 : decode cX5_forestSet 1 = .ok (.istore_n 2, 1) := by decide +kernel
theorem d_X5_forestSet_2 : decode cX5_forestSet 2 = .ok (.iconst 0, 1) := by decide +kernel
theorem d_X5_forestSet_3 : decode cX5_forestSet 3 = .ok (.istore_n 3, 1) := by decide +kernel
theorem d_X5_forestSet_4 : decode cX5_forestSet 4 = .ok (.iload_n 3, 1) := by decide +kernel
theorem d_X5_forestSet_5 : decode cX5_forestSet 5 = .ok (.aload_n 0, 1) := by decide +kernel
theorem d_X5_forestSet_6 : decode cX5_forestSet 6 = .ok (.getfield 37, 3) := by decide +kernel
theorem d_X5_forestSet_9 : decode cX5_forestSet 9 = .ok (.if_icmp .ge 25, 3) := by decide +kernel
theorem d_X5_forestSet_12 : decode cX5_forestSet 12 = .ok (.aload_n 0, 1) := by decide +kernel
theorem d_X5_forestSet_13 : decode cX5_forestSet 13 = .ok (.getfield 21, 3) := by decide +kernel
theorem d_X5_forestSet_16 : decode cX5_forestSet 16 = .ok (.iload_n 3, 1) := by decide +kernel
theorem d_X5_forestSet_17 : decode cX5_forestSet 17 = .ok (.iaload, 1) := by decide +kernel
theorem d_X5_forestSet_18 : decode cX5_forestSet 18 = .ok (.iload_n 1, 1) := by decide +kernel
theorem d_X5_forestSet_19 : decode cX5_forestSet 19 = .ok (.if_icmp .ne 9, 3) := by decide +kernel
theorem d_X5_forestSet_22 : decode cX5_forestSet 22 = .ok (.iload_n 2, 1) := by decide +kernel
theorem d_X5_forestSet_23 : decode cX5_forestSet 23 = .ok (.iconst 1, 1) := by decide +kernel
theorem d_X5_forestSet_24 : decode cX5_forestSet 24 = .ok (.iload_n 3, 1) := by decide +kernel
theorem d_X5_forestSet_25 : decode cX5_forestSet 25 = .ok (.ishl, 1) := by decide +kernel
theorem d_X5_forestSet_26 : decode cX5_forestSet 26 = .ok (.ior, 1) := by decide +kernel
theorem d_X5_forestSet_27 : decode cX5_forestSet 27 = .ok (.istore_n 2, 1) := by decide +kernel
theorem d_X5_forestSet_28 : decode cX5_forestSet 28 = .ok (.iinc 3 1, 3) := by decide +kernel
theorem d_X5_forestSet_31 : decode cX5_forestSet 31 = .ok (.goto (-27), 3) := by decide +kernel
theorem d_X5_forestSet_34 : decode cX5_forestSet 34 = .ok (.iload_n 2, 1) := by decide +kernel
theorem d_X5_forestSet_35 : decode cX5_forestSet 35 = .ok (.ireturn, 1) := by decide +kernel
theorem d_X11_forest_0 : decode cX11_forest 0 = .ok (.aload_n 0, 1) := by decide +kernel
theorem d_X11_forest_1 : decode cX11_forest 1 = .ok (.getfield 10, 3) := by decide +kernel
theorem d_X11_forest_4 : decode cX11_forest 4 = .ok (.iload_n 1, 1) := by decide +kernel
theorem d_X11_forest_5 : decode cX11_forest 5 = .ok (.invokevirtual 169, 3) := by decide +kernel
theorem d_X11_forest_8 : decode cX11_forest 8 = .ok (.ifCond .eq 14, 3) := by decide +kernel
theorem d_X11_forest_11 : decode cX11_forest 11 = .ok (.aload_n 0, 1) := by decide +kernel
theorem d_X11_forest_12 : decode cX11_forest 12 = .ok (.getfield 10, 3) := by decide +kernel
theorem d_X11_forest_15 : decode cX11_forest 15 = .ok (.iload_n 1, 1) := by decide +kernel
theorem d_X11_forest_16 : decode cX11_forest 16 = .ok (.invokevirtual 180, 3) := by decide +kernel
theorem d_X11_forest_19 : decode cX11_forest 19 = .ok (.goto 4, 3) := by decide +kernel
theorem d_X11_forest_22 : decode cX11_forest 22 = .ok (.iconst (-1), 1) := by decide +kernel
theorem d_X11_forest_23 : decode cX11_forest 23 = .ok (.ireturn, 1) := by decide +kernel
theorem d_X0_count_0 : decode cX0_count 0 = .ok (.aload_n 0, 1) := by decide +kernel
theorem d_X0_count_1 : decode cX0_count 1 = .ok (.getfield 28, 3) := by decide +kernel
theorem d_X0_count_4 : decode cX0_count 4 = .ok (.ireturn, 1) := by decide +kernel
theorem d_X5_ends_0 : decode cX5_ends 0 = .ok (.iconst 1, 1) := by decide +kernel
theorem d_X5_ends_1 : decode cX5_ends 1 = .ok (.aload_n 0, 1) := by decide +kernel
theorem d_X5_ends_2 : decode cX5_ends 2 = .ok (.getfield 9, 3) := by decide +kernel
theorem d_X5_ends_5 : decode cX5_ends 5 = .ok (.iload_n 1, 1) := by decide +kernel
theorem d_X5_ends_6 : decode cX5_ends 6 = .ok (.iaload, 1) := by decide +kernel
theorem d_X5_ends_7 : decode cX5_ends 7 = .ok (.ishl, 1) := by decide +kernel
theorem d_X5_ends_8 : decode cX5_ends 8 = .ok (.iconst 1, 1) := by decide +kernel
theorem d_X5_ends_9 : decode cX5_ends 9 = .ok (.aload_n 0, 1) := by decide +kernel
theorem d_X5_ends_10 : decode cX5_ends 10 = .ok (.getfield 15, 3) := by decide +kernel
theorem d_X5_ends_13 : decode cX5_ends 13 = .ok (.iload_n 1, 1) := by decide +kernel
theorem d_X5_ends_14 : decode cX5_ends 14 = .ok (.iaload, 1) := by decide +kernel
theorem d_X5_ends_15 : decode cX5_ends 15 = .ok (.ishl, 1) := by decide +kernel
theorem d_X5_ends_16 : decode cX5_ends 16 = .ok (.ior, 1) := by decide +kernel
theorem d_X5_ends_17 : decode cX5_ends 17 = .ok (.ireturn, 1) := by decide +kernel
theorem d_X5_reach_0 : decode cX5_reach 0 = .ok (.iconst 1, 1) := by decide +kernel
theorem d_X5_reach_1 : decode cX5_reach 1 = .ok (.iload_n 1, 1) := by decide +kernel
theorem d_X5_reach_2 : decode cX5_reach 2 = .ok (.ishl, 1) := by decide +kernel
theorem d_X5_reach_3 : decode cX5_reach 3 = .ok (.istore_n 3, 1) := by decide +kernel
theorem d_X5_reach_4 : decode cX5_reach 4 = .ok (.iconst 0, 1) := by decide +kernel
theorem d_X5_reach_5 : decode cX5_reach 5 = .ok (.istore 4, 2) := by decide +kernel
theorem d_X5_reach_7 : decode cX5_reach 7 = .ok (.iload 4, 2) := by decide +kernel
theorem d_X5_reach_9 : decode cX5_reach 9 = .ok (.aload_n 0, 1) := by decide +kernel
theorem d_X5_reach_10 : decode cX5_reach 10 = .ok (.getfield 34, 3) := by decide +kernel
theorem d_X5_reach_13 : decode cX5_reach 13 = .ok (.if_icmp .ge 68, 3) := by decide +kernel
theorem d_X5_reach_16 : decode cX5_reach 16 = .ok (.iload_n 3, 1) := by decide +kernel
theorem d_X5_reach_17 : decode cX5_reach 17 = .ok (.istore 5, 2) := by decide +kernel
theorem d_X5_reach_19 : decode cX5_reach 19 = .ok (.iconst 0, 1) := by decide +kernel
theorem d_X5_reach_20 : decode cX5_reach 20 = .ok (.istore 6, 2) := by decide +kernel
theorem d_X5_reach_22 : decode cX5_reach 22 = .ok (.iload 6, 2) := by decide +kernel
theorem d_X5_reach_24 : decode cX5_reach 24 = .ok (.aload_n 0, 1) := by decide +kernel
theorem d_X5_reach_25 : decode cX5_reach 25 = .ok (.getfield 37, 3) := by decide +kernel
theorem d_X5_reach_28 : decode cX5_reach 28 = .ok (.if_icmp .ge 38, 3) := by decide +kernel
theorem d_X5_reach_31 : decode cX5_reach 31 = .ok (.iload_n 2, 1) := by decide +kernel
theorem d_X5_reach_32 : decode cX5_reach 32 = .ok (.iload 6, 2) := by decide +kernel
theorem d_X5_reach_34 : decode cX5_reach 34 = .ok (.ishr, 1) := by decide +kernel
theorem d_X5_reach_35 : decode cX5_reach 35 = .ok (.iconst 1, 1) := by decide +kernel
theorem d_X5_reach_36 : decode cX5_reach 36 = .ok (.iand, 1) := by decide +kernel
theorem d_X5_reach_37 : decode cX5_reach 37 = .ok (.ifCond .eq 23, 3) := by decide +kernel
theorem d_X5_reach_40 : decode cX5_reach 40 = .ok (.aload_n 0, 1) := by decide +kernel
theorem d_X5_reach_41 : decode cX5_reach 41 = .ok (.iload 6, 2) := by decide +kernel
theorem d_X5_reach_43 : decode cX5_reach 43 = .ok (.invokevirtual 62, 3) := by decide +kernel
theorem d_X5_reach_46 : decode cX5_reach 46 = .ok (.iload_n 3, 1) := by decide +kernel
theorem d_X5_reach_47 : decode cX5_reach 47 = .ok (.iand, 1) := by decide +kernel
theorem d_X5_reach_48 : decode cX5_reach 48 = .ok (.ifCond .eq 12, 3) := by decide +kernel
theorem d_X5_reach_51 : decode cX5_reach 51 = .ok (.iload_n 3, 1) := by decide +kernel
theorem d_X5_reach_52 : decode cX5_reach 52 = .ok (.aload_n 0, 1) := by decide +kernel
theorem d_X5_reach_53 : decode cX5_reach 53 = .ok (.iload 6, 2) := by decide +kernel
theorem d_X5_reach_55 : decode cX5_reach 55 = .ok (.invokevirtual 62, 3) := by decide +kernel
theorem d_X5_reach_58 : decode cX5_reach 58 = .ok (.ior, 1) := by decide +kernel
theorem d_X5_reach_59 : decode cX5_reach 59 = .ok (.istore_n 3, 1) := by decide +kernel
theorem d_X5_reach_60 : decode cX5_reach 60 = .ok (.iinc 6 1, 3) := by decide +kernel
theorem d_X5_reach_63 : decode cX5_reach 63 = .ok (.goto (-41), 3) := by decide +kernel
theorem d_X5_reach_66 : decode cX5_reach 66 = .ok (.iload_n 3, 1) := by decide +kernel
theorem d_X5_reach_67 : decode cX5_reach 67 = .ok (.iload 5, 2) := by decide +kernel
theorem d_X5_reach_69 : decode cX5_reach 69 = .ok (.if_icmp .ne 6, 3) := by decide +kernel
theorem d_X5_reach_72 : decode cX5_reach 72 = .ok (.goto 9, 3) := by decide +kernel
theorem d_X5_reach_75 : decode cX5_reach 75 = .ok (.iinc 4 1, 3) := by decide +kernel
theorem d_X5_reach_78 : decode cX5_reach 78 = .ok (.goto (-71), 3) := by decide +kernel
theorem d_X5_reach_81 : decode cX5_reach 81 = .ok (.iload_n 3, 1) := by decide +kernel
theorem d_X5_reach_82 : decode cX5_reach 82 = .ok (.ireturn, 1) := by decide +kernel
theorem d_X5_pieces_0 : decode cX5_pieces 0 = .ok (.iconst 0, 1) := by decide +kernel
theorem d_X5_pieces_1 : decode cX5_pieces 1 = .ok (.istore_n 2, 1) := by decide +kernel
theorem d_X5_pieces_2 : decode cX5_pieces 2 = .ok (.iconst 0, 1) := by decide +kernel
theorem d_X5_pieces_3 : decode cX5_pieces 3 = .ok (.istore_n 3, 1) := by decide +kernel
theorem d_X5_pieces_4 : decode cX5_pieces 4 = .ok (.iconst 0, 1) := by decide +kernel
theorem d_X5_pieces_5 : decode cX5_pieces 5 = .ok (.istore 4, 2) := by decide +kernel
theorem d_X5_pieces_7 : decode cX5_pieces 7 = .ok (.iload 4, 2) := by decide +kernel
theorem d_X5_pieces_9 : decode cX5_pieces 9 = .ok (.aload_n 0, 1) := by decide +kernel
theorem d_X5_pieces_10 : decode cX5_pieces 10 = .ok (.getfield 34, 3) := by decide +kernel
theorem d_X5_pieces_13 : decode cX5_pieces 13 = .ok (.if_icmp .ge 31, 3) := by decide +kernel
theorem d_X5_pieces_16 : decode cX5_pieces 16 = .ok (.iload_n 3, 1) := by decide +kernel
theorem d_X5_pieces_17 : decode cX5_pieces 17 = .ok (.iload 4, 2) := by decide +kernel
theorem d_X5_pieces_19 : decode cX5_pieces 19 = .ok (.ishr, 1) := by decide +kernel
theorem d_X5_pieces_20 : decode cX5_pieces 20 = .ok (.iconst 1, 1) := by decide +kernel
theorem d_X5_pieces_21 : decode cX5_pieces 21 = .ok (.iand, 1) := by decide +kernel
theorem d_X5_pieces_22 : decode cX5_pieces 22 = .ok (.ifCond .ne 16, 3) := by decide +kernel
theorem d_X5_pieces_25 : decode cX5_pieces 25 = .ok (.iload_n 3, 1) := by decide +kernel
theorem d_X5_pieces_26 : decode cX5_pieces 26 = .ok (.aload_n 0, 1) := by decide +kernel
theorem d_X5_pieces_27 : decode cX5_pieces 27 = .ok (.iload 4, 2) := by decide +kernel
theorem d_X5_pieces_29 : decode cX5_pieces 29 = .ok (.iload_n 1, 1) := by decide +kernel
theorem d_X5_pieces_30 : decode cX5_pieces 30 = .ok (.invokevirtual 65, 3) := by decide +kernel
theorem d_X5_pieces_33 : decode cX5_pieces 33 = .ok (.ior, 1) := by decide +kernel
theorem d_X5_pieces_34 : decode cX5_pieces 34 = .ok (.istore_n 3, 1) := by decide +kernel
theorem d_X5_pieces_35 : decode cX5_pieces 35 = .ok (.iinc 2 1, 3) := by decide +kernel
theorem d_X5_pieces_38 : decode cX5_pieces 38 = .ok (.iinc 4 1, 3) := by decide +kernel
theorem d_X5_pieces_41 : decode cX5_pieces 41 = .ok (.goto (-34), 3) := by decide +kernel
theorem d_X5_pieces_44 : decode cX5_pieces 44 = .ok (.iload_n 2, 1) := by decide +kernel
theorem d_X5_pieces_45 : decode cX5_pieces 45 = .ok (.ireturn, 1) := by decide +kernel
theorem d_X5_soundSet_0 : decode cX5_soundSet 0 = .ok (.iconst 1, 1) := by decide +kernel
theorem d_X5_soundSet_1 : decode cX5_soundSet 1 = .ok (.aload_n 0, 1) := by decide +kernel
theorem d_X5_soundSet_2 : decode cX5_soundSet 2 = .ok (.getfield 37, 3) := by decide +kernel
theorem d_X5_soundSet_5 : decode cX5_soundSet 5 = .ok (.ishl, 1) := by decide +kernel
theorem d_X5_soundSet_6 : decode cX5_soundSet 6 = .ok (.iconst 1, 1) := by decide +kernel
theorem d_X5_soundSet_7 : decode cX5_soundSet 7 = .ok (.isub, 1) := by decide +kernel
theorem d_X5_soundSet_8 : decode cX5_soundSet 8 = .ok (.aload_n 0, 1) := by decide +kernel
theorem d_X5_soundSet_9 : decode cX5_soundSet 9 = .ok (.getfield 40, 3) := by decide +kernel
theorem d_X5_soundSet_12 : decode cX5_soundSet 12 = .ok (.iconst (-1), 1) := by decide +kernel
theorem d_X5_soundSet_13 : decode cX5_soundSet 13 = .ok (.ixor, 1) := by decide +kernel
theorem d_X5_soundSet_14 : decode cX5_soundSet 14 = .ok (.iand, 1) := by decide +kernel
theorem d_X5_soundSet_15 : decode cX5_soundSet 15 = .ok (.ireturn, 1) := by decide +kernel
theorem d_B_bitCount_0 : decode cB_bitCount 0 = .ok (.iload_n 0, 1) := by decide +kernel
theorem d_B_bitCount_1 : decode cB_bitCount 1 = .ok (.iload_n 0, 1) := by decide +kernel
theorem d_B_bitCount_2 : decode cB_bitCount 2 = .ok (.iconst 1, 1) := by decide +kernel
theorem d_B_bitCount_3 : decode cB_bitCount 3 = .ok (.iushr, 1) := by decide +kernel
theorem d_B_bitCount_4 : decode cB_bitCount 4 = .ok (.ldc_w 265, 3) := by decide +kernel
theorem d_B_bitCount_7 : decode cB_bitCount 7 = .ok (.iand, 1) := by decide +kernel
theorem d_B_bitCount_8 : decode cB_bitCount 8 = .ok (.isub, 1) := by decide +kernel
theorem d_B_bitCount_9 : decode cB_bitCount 9 = .ok (.istore_n 0, 1) := by decide +kernel
theorem d_B_bitCount_10 : decode cB_bitCount 10 = .ok (.iload_n 0, 1) := by decide +kernel
theorem d_B_bitCount_11 : decode cB_bitCount 11 = .ok (.ldc_w 266, 3) := by decide +kernel
theorem d_B_bitCount_14 : decode cB_bitCount 14 = .ok (.iand, 1) := by decide +kernel
theorem d_B_bitCount_15 : decode cB_bitCount 15 = .ok (.iload_n 0, 1) := by decide +kernel
theorem d_B_bitCount_16 : decode cB_bitCount 16 = .ok (.iconst 2, 1) := by decide +kernel
theorem d_B_bitCount_17 : decode cB_bitCount 17 = .ok (.iushr, 1) := by decide +kernel
theorem d_B_bitCount_18 : decode cB_bitCount 18 = .ok (.ldc_w 266, 3) := by decide +kernel
theorem d_B_bitCount_21 : decode cB_bitCount 21 = .ok (.iand, 1) := by decide +kernel
theorem d_B_bitCount_22 : decode cB_bitCount 22 = .ok (.iadd, 1) := by decide +kernel
theorem d_B_bitCount_23 : decode cB_bitCount 23 = .ok (.istore_n 0, 1) := by decide +kernel
theorem d_B_bitCount_24 : decode cB_bitCount 24 = .ok (.iload_n 0, 1) := by decide +kernel
theorem d_B_bitCount_25 : decode cB_bitCount 25 = .ok (.iload_n 0, 1) := by decide +kernel
theorem d_B_bitCount_26 : decode cB_bitCount 26 = .ok (.iconst 4, 1) := by decide +kernel
theorem d_B_bitCount_27 : decode cB_bitCount 27 = .ok (.iushr, 1) := by decide +kernel
theorem d_B_bitCount_28 : decode cB_bitCount 28 = .ok (.iadd, 1) := by decide +kernel
theorem d_B_bitCount_29 : decode cB_bitCount 29 = .ok (.ldc_w 267, 3) := by decide +kernel
theorem d_B_bitCount_32 : decode cB_bitCount 32 = .ok (.iand, 1) := by decide +kernel
theorem d_B_bitCount_33 : decode cB_bitCount 33 = .ok (.istore_n 0, 1) := by decide +kernel
theorem d_B_bitCount_34 : decode cB_bitCount 34 = .ok (.iload_n 0, 1) := by decide +kernel
theorem d_B_bitCount_35 : decode cB_bitCount 35 = .ok (.iload_n 0, 1) := by decide +kernel
theorem d_B_bitCount_36 : decode cB_bitCount 36 = .ok (.bipush 8, 2) := by decide +kernel
theorem d_B_bitCount_38 : decode cB_bitCount 38 = .ok (.iushr, 1) := by decide +kernel
theorem d_B_bitCount_39 : decode cB_bitCount 39 = .ok (.iadd, 1) := by decide +kernel
theorem d_B_bitCount_40 : decode cB_bitCount 40 = .ok (.istore_n 0, 1) := by decide +kernel
theorem d_B_bitCount_41 : decode cB_bitCount 41 = .ok (.iload_n 0, 1) := by decide +kernel
theorem d_B_bitCount_42 : decode cB_bitCount 42 = .ok (.iload_n 0, 1) := by decide +kernel
theorem d_B_bitCount_43 : decode cB_bitCount 43 = .ok (.bipush 16, 2) := by decide +kernel
theorem d_B_bitCount_45 : decode cB_bitCount 45 = .ok (.iushr, 1) := by decide +kernel
theorem d_B_bitCount_46 : decode cB_bitCount 46 = .ok (.iadd, 1) := by decide +kernel
theorem d_B_bitCount_47 : decode cB_bitCount 47 = .ok (.istore_n 0, 1) := by decide +kernel
theorem d_B_bitCount_48 : decode cB_bitCount 48 = .ok (.iload_n 0, 1) := by decide +kernel
theorem d_B_bitCount_49 : decode cB_bitCount 49 = .ok (.bipush 63, 2) := by decide +kernel
theorem d_B_bitCount_51 : decode cB_bitCount 51 = .ok (.iand, 1) := by decide +kernel
theorem d_B_bitCount_52 : decode cB_bitCount 52 = .ok (.ireturn, 1) := by decide +kernel
theorem d_X5_packed_0 : decode cX5_packed 0 = .ok (.aload_n 0, 1) := by decide +kernel
theorem d_X5_packed_1 : decode cX5_packed 1 = .ok (.getfield 37, 3) := by decide +kernel
theorem d_X5_packed_4 : decode cX5_packed 4 = .ok (.aload_n 0, 1) := by decide +kernel
theorem d_X5_packed_5 : decode cX5_packed 5 = .ok (.iconst (-1), 1) := by decide +kernel
theorem d_X5_packed_6 : decode cX5_packed 6 = .ok (.invokevirtual 46, 3) := by decide +kernel
theorem d_X5_packed_9 : decode cX5_packed 9 = .ok (.invokestatic 50, 3) := by decide +kernel
theorem d_X5_packed_12 : decode cX5_packed 12 = .ok (.isub, 1) := by decide +kernel
theorem d_X5_packed_13 : decode cX5_packed 13 = .ok (.ireturn, 1) := by decide +kernel
theorem d_X11_now_0 : decode cX11_now 0 = .ok (.iload_n 1, 1) := by decide +kernel
theorem d_X11_now_1 : decode cX11_now 1 = .ok (.tableswitch 141 0 8 #[51, 59, 67, 75, 86, 94, 109, 125, 133], 51) := by decide +kernel
theorem d_X11_now_52 : decode cX11_now 52 = .ok (.aload_n 0, 1) := by decide +kernel
theorem d_X11_now_53 : decode cX11_now 53 = .ok (.getfield 10, 3) := by decide +kernel
theorem d_X11_now_56 : decode cX11_now 56 = .ok (.getfield 184, 3) := by decide +kernel
theorem d_X11_now_59 : decode cX11_now 59 = .ok (.ireturn, 1) := by decide +kernel
theorem d_X11_now_60 : decode cX11_now 60 = .ok (.aload_n 0, 1) := by decide +kernel
theorem d_X11_now_61 : decode cX11_now 61 = .ok (.getfield 10, 3) := by decide +kernel
theorem d_X11_now_64 : decode cX11_now 64 = .ok (.getfield 136, 3) := by decide +kernel
theorem d_X11_now_67 : decode cX11_now 67 = .ok (.ireturn, 1) := by decide +kernel
theorem d_X11_now_68 : decode cX11_now 68 = .ok (.aload_n 0, 1) := by decide +kernel
theorem d_X11_now_69 : decode cX11_now 69 = .ok (.getfield 10, 3) := by decide +kernel
theorem d_X11_now_72 : decode cX11_now 72 = .ok (.getfield 129, 3) := by decide +kernel
theorem d_X11_now_75 : decode cX11_now 75 = .ok (.ireturn, 1) := by decide +kernel
theorem d_X11_now_76 : decode cX11_now 76 = .ok (.aload_n 0, 1) := by decide +kernel
theorem d_X11_now_77 : decode cX11_now 77 = .ok (.getfield 10, 3) := by decide +kernel
theorem d_X11_now_80 : decode cX11_now 80 = .ok (.invokevirtual 187, 3) := by decide +kernel
theorem d_X11_now_83 : decode cX11_now 83 = .ok (.invokestatic 190, 3) := by decide +kernel
theorem d_X11_now_86 : decode cX11_now 86 = .ok (.ireturn, 1) := by decide +kernel
theorem d_X11_now_87 : decode cX11_now 87 = .ok (.aload_n 0, 1) := by decide +kernel
theorem d_X11_now_88 : decode cX11_now 88 = .ok (.getfield 10, 3) := by decide +kernel
theorem d_X11_now_91 : decode cX11_now 91 = .ok (.invokevirtual 195, 3) := by decide +kernel
theorem d_X11_now_94 : decode cX11_now 94 = .ok (.ireturn, 1) := by decide +kernel
theorem d_X11_now_95 : decode cX11_now 95 = .ok (.aload_n 0, 1) := by decide +kernel
theorem d_X11_now_96 : decode cX11_now 96 = .ok (.getfield 10, 3) := by decide +kernel
theorem d_X11_now_99 : decode cX11_now 99 = .ok (.aload_n 0, 1) := by decide +kernel
theorem d_X11_now_100 : decode cX11_now 100 = .ok (.getfield 10, 3) := by decide +kernel
theorem d_X11_now_103 : decode cX11_now 103 = .ok (.invokevirtual 187, 3) := by decide +kernel
theorem d_X11_now_106 : decode cX11_now 106 = .ok (.invokevirtual 198, 3) := by decide +kernel
theorem d_X11_now_109 : decode cX11_now 109 = .ok (.ireturn, 1) := by decide +kernel
theorem d_X11_now_110 : decode cX11_now 110 = .ok (.aload_n 0, 1) := by decide +kernel
theorem d_X11_now_111 : decode cX11_now 111 = .ok (.getfield 10, 3) := by decide +kernel
theorem d_X11_now_114 : decode cX11_now 114 = .ok (.aload_n 0, 1) := by decide +kernel
theorem d_X11_now_115 : decode cX11_now 115 = .ok (.getfield 10, 3) := by decide +kernel
theorem d_X11_now_118 : decode cX11_now 118 = .ok (.iconst 0, 1) := by decide +kernel
theorem d_X11_now_119 : decode cX11_now 119 = .ok (.invokevirtual 180, 3) := by decide +kernel
theorem d_X11_now_122 : decode cX11_now 122 = .ok (.invokevirtual 198, 3) := by decide +kernel
theorem d_X11_now_125 : decode cX11_now 125 = .ok (.ireturn, 1) := by decide +kernel
theorem d_X11_now_126 : decode cX11_now 126 = .ok (.aload_n 0, 1) := by decide +kernel
theorem d_X11_now_127 : decode cX11_now 127 = .ok (.getfield 37, 3) := by decide +kernel
theorem d_X11_now_130 : decode cX11_now 130 = .ok (.invokevirtual 201, 3) := by decide +kernel
theorem d_X11_now_133 : decode cX11_now 133 = .ok (.ireturn, 1) := by decide +kernel
theorem d_X11_now_134 : decode cX11_now 134 = .ok (.aload_n 0, 1) := by decide +kernel
theorem d_X11_now_135 : decode cX11_now 135 = .ok (.getfield 19, 3) := by decide +kernel
theorem d_X11_now_138 : decode cX11_now 138 = .ok (.invokevirtual 106, 3) := by decide +kernel
theorem d_X11_now_141 : decode cX11_now 141 = .ok (.ireturn, 1) := by decide +kernel
theorem d_X11_now_142 : decode cX11_now 142 = .ok (.iconst (-1), 1) := by decide +kernel
theorem d_X11_now_143 : decode cX11_now 143 = .ok (.ireturn, 1) := by decide +kernel
theorem d_X5_hasLine_0 : decode cX5_hasLine 0 = .ok (.iload_n 1, 1) := by decide +kernel
theorem d_X5_hasLine_1 : decode cX5_hasLine 1 = .ok (.ifCond .lt 15, 3) := by decide +kernel
theorem d_X5_hasLine_4 : decode cX5_hasLine 4 = .ok (.iload_n 1, 1) := by decide +kernel
theorem d_X5_hasLine_5 : decode cX5_hasLine 5 = .ok (.aload_n 0, 1) := by decide +kernel
theorem d_X5_hasLine_6 : decode cX5_hasLine 6 = .ok (.getfield 37, 3) := by decide +kernel
theorem d_X5_hasLine_9 : decode cX5_hasLine 9 = .ok (.if_icmp .ge 7, 3) := by decide +kernel
theorem d_X5_hasLine_12 : decode cX5_hasLine 12 = .ok (.iconst 1, 1) := by decide +kernel
theorem d_X5_hasLine_13 : decode cX5_hasLine 13 = .ok (.goto 4, 3) := by decide +kernel
theorem d_X5_hasLine_16 : decode cX5_hasLine 16 = .ok (.iconst 0, 1) := by decide +kernel
theorem d_X5_hasLine_17 : decode cX5_hasLine 17 = .ok (.ireturn, 1) := by decide +kernel
theorem d_X5_isSound_0 : decode cX5_isSound 0 = .ok (.aload_n 0, 1) := by decide +kernel
theorem d_X5_isSound_1 : decode cX5_isSound 1 = .ok (.getfield 40, 3) := by decide +kernel
theorem d_X5_isSound_4 : decode cX5_isSound 4 = .ok (.iload_n 1, 1) := by decide +kernel
theorem d_X5_isSound_5 : decode cX5_isSound 5 = .ok (.ishr, 1) := by decide +kernel
theorem d_X5_isSound_6 : decode cX5_isSound 6 = .ok (.iconst 1, 1) := by decide +kernel
theorem d_X5_isSound_7 : decode cX5_isSound 7 = .ok (.iand, 1) := by decide +kernel
theorem d_X5_isSound_8 : decode cX5_isSound 8 = .ok (.ifCond .ne 7, 3) := by decide +kernel
theorem d_X5_isSound_11 : decode cX5_isSound 11 = .ok (.iconst 1, 1) := by decide +kernel
theorem d_X5_isSound_12 : decode cX5_isSound 12 = .ok (.goto 4, 3) := by decide +kernel
theorem d_X5_isSound_15 : decode cX5_isSound 15 = .ok (.iconst 0, 1) := by decide +kernel
theorem d_X5_isSound_16 : decode cX5_isSound 16 = .ok (.ireturn, 1) := by decide +kernel
theorem d_X1_goAlong_0 : decode cX1_goAlong 0 = .ok (.aload_n 0, 1) := by decide +kernel
theorem d_X1_goAlong_1 : decode cX1_goAlong 1 = .ok (.getfield 33, 3) := by decide +kernel
theorem d_X1_goAlong_4 : decode cX1_goAlong 4 = .ok (.getfield 42, 3) := by decide +kernel
theorem d_X1_goAlong_7 : decode cX1_goAlong 7 = .ok (.iload_n 1, 1) := by decide +kernel
theorem d_X1_goAlong_8 : decode cX1_goAlong 8 = .ok (.iaload, 1) := by decide +kernel
theorem d_X1_goAlong_9 : decode cX1_goAlong 9 = .ok (.istore_n 3, 1) := by decide +kernel
theorem d_X1_goAlong_10 : decode cX1_goAlong 10 = .ok (.aload_n 0, 1) := by decide +kernel
theorem d_X1_goAlong_11 : decode cX1_goAlong 11 = .ok (.getfield 33, 3) := by decide +kernel
theorem d_X1_goAlong_14 : decode cX1_goAlong 14 = .ok (.getfield 37, 3) := by decide +kernel
theorem d_X1_goAlong_17 : decode cX1_goAlong 17 = .ok (.iload_n 1, 1) := by decide +kernel
theorem d_X1_goAlong_18 : decode cX1_goAlong 18 = .ok (.iaload, 1) := by decide +kernel
theorem d_X1_goAlong_19 : decode cX1_goAlong 19 = .ok (.istore 4, 2) := by decide +kernel
theorem d_X1_goAlong_21 : decode cX1_goAlong 21 = .ok (.iload_n 2, 1) := by decide +kernel
theorem d_X1_goAlong_22 : decode cX1_goAlong 22 = .ok (.iload_n 3, 1) := by decide +kernel
theorem d_X1_goAlong_23 : decode cX1_goAlong 23 = .ok (.ishr, 1) := by decide +kernel
theorem d_X1_goAlong_24 : decode cX1_goAlong 24 = .ok (.iconst 1, 1) := by decide +kernel
theorem d_X1_goAlong_25 : decode cX1_goAlong 25 = .ok (.iand, 1) := by decide +kernel
theorem d_X1_goAlong_26 : decode cX1_goAlong 26 = .ok (.istore 5, 2) := by decide +kernel
theorem d_X1_goAlong_28 : decode cX1_goAlong 28 = .ok (.iload 5, 2) := by decide +kernel
theorem d_X1_goAlong_30 : decode cX1_goAlong 30 = .ok (.iload_n 2, 1) := by decide +kernel
theorem d_X1_goAlong_31 : decode cX1_goAlong 31 = .ok (.iload 4, 2) := by decide +kernel
theorem d_X1_goAlong_33 : decode cX1_goAlong 33 = .ok (.ishr, 1) := by decide +kernel
theorem d_X1_goAlong_34 : decode cX1_goAlong 34 = .ok (.iconst 1, 1) := by decide +kernel
theorem d_X1_goAlong_35 : decode cX1_goAlong 35 = .ok (.iand, 1) := by decide +kernel
theorem d_X1_goAlong_36 : decode cX1_goAlong 36 = .ok (.if_icmp .ne 5, 3) := by decide +kernel
theorem d_X1_goAlong_39 : decode cX1_goAlong 39 = .ok (.iconst 0, 1) := by decide +kernel
theorem d_X1_goAlong_40 : decode cX1_goAlong 40 = .ok (.ireturn, 1) := by decide +kernel
theorem d_X1_goAlong_41 : decode cX1_goAlong 41 = .ok (.iload 5, 2) := by decide +kernel
theorem d_X1_goAlong_43 : decode cX1_goAlong 43 = .ok (.iconst 1, 1) := by decide +kernel
theorem d_X1_goAlong_44 : decode cX1_goAlong 44 = .ok (.if_icmp .ne 7, 3) := by decide +kernel
theorem d_X1_goAlong_47 : decode cX1_goAlong 47 = .ok (.iload_n 3, 1) := by decide +kernel
theorem d_X1_goAlong_48 : decode cX1_goAlong 48 = .ok (.goto 5, 3) := by decide +kernel
theorem d_X1_goAlong_51 : decode cX1_goAlong 51 = .ok (.iload 4, 2) := by decide +kernel
theorem d_X1_goAlong_53 : decode cX1_goAlong 53 = .ok (.istore 6, 2) := by decide +kernel
theorem d_X1_goAlong_55 : decode cX1_goAlong 55 = .ok (.iload 5, 2) := by decide +kernel
theorem d_X1_goAlong_57 : decode cX1_goAlong 57 = .ok (.iconst 1, 1) := by decide +kernel
theorem d_X1_goAlong_58 : decode cX1_goAlong 58 = .ok (.if_icmp .ne 8, 3) := by decide +kernel
theorem d_X1_goAlong_61 : decode cX1_goAlong 61 = .ok (.iload 4, 2) := by decide +kernel
theorem d_X1_goAlong_63 : decode cX1_goAlong 63 = .ok (.goto 4, 3) := by decide +kernel
theorem d_X1_goAlong_66 : decode cX1_goAlong 66 = .ok (.iload_n 3, 1) := by decide +kernel
theorem d_X1_goAlong_67 : decode cX1_goAlong 67 = .ok (.istore 7, 2) := by decide +kernel
theorem d_X1_goAlong_69 : decode cX1_goAlong 69 = .ok (.aload_n 0, 1) := by decide +kernel
theorem d_X1_goAlong_70 : decode cX1_goAlong 70 = .ok (.getfield 9, 3) := by decide +kernel
theorem d_X1_goAlong_73 : decode cX1_goAlong 73 = .ok (.iload 7, 2) := by decide +kernel
theorem d_X1_goAlong_75 : decode cX1_goAlong 75 = .ok (.aload_n 0, 1) := by decide +kernel
theorem d_X1_goAlong_76 : decode cX1_goAlong 76 = .ok (.getfield 9, 3) := by decide +kernel
theorem d_X1_goAlong_79 : decode cX1_goAlong 79 = .ok (.iload 6, 2) := by decide +kernel
theorem d_X1_goAlong_81 : decode cX1_goAlong 81 = .ok (.iaload, 1) := by decide +kernel
theorem d_X1_goAlong_82 : decode cX1_goAlong 82 = .ok (.iconst 1, 1) := by decide +kernel
theorem d_X1_goAlong_83 : decode cX1_goAlong 83 = .ok (.iload_n 1, 1) := by decide +kernel
theorem d_X1_goAlong_84 : decode cX1_goAlong 84 = .ok (.ishl, 1) := by decide +kernel
theorem d_X1_goAlong_85 : decode cX1_goAlong 85 = .ok (.ior, 1) := by decide +kernel
theorem d_X1_goAlong_86 : decode cX1_goAlong 86 = .ok (.iastore, 1) := by decide +kernel
theorem d_X1_goAlong_87 : decode cX1_goAlong 87 = .ok (.iconst 1, 1) := by decide +kernel
theorem d_X1_goAlong_88 : decode cX1_goAlong 88 = .ok (.iload 7, 2) := by decide +kernel
theorem d_X1_goAlong_90 : decode cX1_goAlong 90 = .ok (.ishl, 1) := by decide +kernel
theorem d_X1_goAlong_91 : decode cX1_goAlong 91 = .ok (.ireturn, 1) := by decide +kernel
theorem d_X1_ringOf_0 : decode cX1_ringOf 0 = .ok (.aload_n 0, 1) := by decide +kernel
theorem d_X1_ringOf_1 : decode cX1_ringOf 1 = .ok (.getfield 33, 3) := by decide +kernel
theorem d_X1_ringOf_4 : decode cX1_ringOf 4 = .ok (.getfield 37, 3) := by decide +kernel
theorem d_X1_ringOf_7 : decode cX1_ringOf 7 = .ok (.iload_n 1, 1) := by decide +kernel
theorem d_X1_ringOf_8 : decode cX1_ringOf 8 = .ok (.iaload, 1) := by decide +kernel
theorem d_X1_ringOf_9 : decode cX1_ringOf 9 = .ok (.istore_n 3, 1) := by decide +kernel
theorem d_X1_ringOf_10 : decode cX1_ringOf 10 = .ok (.iconst 1, 1) := by decide +kernel
theorem d_X1_ringOf_11 : decode cX1_ringOf 11 = .ok (.aload_n 0, 1) := by decide +kernel
theorem d_X1_ringOf_12 : decode cX1_ringOf 12 = .ok (.getfield 33, 3) := by decide +kernel
theorem d_X1_ringOf_15 : decode cX1_ringOf 15 = .ok (.getfield 42, 3) := by decide +kernel
theorem d_X1_ringOf_18 : decode cX1_ringOf 18 = .ok (.iload_n 1, 1) := by decide +kernel
theorem d_X1_ringOf_19 : decode cX1_ringOf 19 = .ok (.iaload, 1) := by decide +kernel
theorem d_X1_ringOf_20 : decode cX1_ringOf 20 = .ok (.ishl, 1) := by decide +kernel
theorem d_X1_ringOf_21 : decode cX1_ringOf 21 = .ok (.istore 4, 2) := by decide +kernel
theorem d_X1_ringOf_23 : decode cX1_ringOf 23 = .ok (.aload_n 0, 1) := by decide +kernel
theorem d_X1_ringOf_24 : decode cX1_ringOf 24 = .ok (.getfield 9, 3) := by decide +kernel
theorem d_X1_ringOf_27 : decode cX1_ringOf 27 = .ok (.aload_n 0, 1) := by decide +kernel
theorem d_X1_ringOf_28 : decode cX1_ringOf 28 = .ok (.getfield 33, 3) := by decide +kernel
theorem d_X1_ringOf_31 : decode cX1_ringOf 31 = .ok (.getfield 42, 3) := by decide +kernel
theorem d_X1_ringOf_34 : decode cX1_ringOf 34 = .ok (.iload_n 1, 1) := by decide +kernel
theorem d_X1_ringOf_35 : decode cX1_ringOf 35 = .ok (.iaload, 1) := by decide +kernel
theorem d_X1_ringOf_36 : decode cX1_ringOf 36 = .ok (.iconst 0, 1) := by decide +kernel
theorem d_X1_ringOf_37 : decode cX1_ringOf 37 = .ok (.iastore, 1) := by decide +kernel
theorem d_X1_ringOf_38 : decode cX1_ringOf 38 = .ok (.iconst 0, 1) := by decide +kernel
theorem d_X1_ringOf_39 : decode cX1_ringOf 39 = .ok (.istore 5, 2) := by decide +kernel
theorem d_X1_ringOf_41 : decode cX1_ringOf 41 = .ok (.iload 5, 2) := by decide +kernel
theorem d_X1_ringOf_43 : decode cX1_ringOf 43 = .ok (.aload_n 0, 1) := by decide +kernel
theorem d_X1_ringOf_44 : decode cX1_ringOf 44 = .ok (.getfield 33, 3) := by decide +kernel
theorem d_X1_ringOf_47 : decode cX1_ringOf 47 = .ok (.getfield 45, 3) := by decide +kernel
theorem d_X1_ringOf_50 : decode cX1_ringOf 50 = .ok (.if_icmp .ge 80, 3) := by decide +kernel
theorem d_X1_ringOf_53 : decode cX1_ringOf 53 = .ok (.iload 4, 2) := by decide +kernel
theorem d_X1_ringOf_55 : decode cX1_ringOf 55 = .ok (.istore 6, 2) := by decide +kernel
theorem d_X1_ringOf_57 : decode cX1_ringOf 57 = .ok (.iconst 0, 1) := by decide +kernel
theorem d_X1_ringOf_58 : decode cX1_ringOf 58 = .ok (.istore 7, 2) := by decide +kernel
theorem d_X1_ringOf_60 : decode cX1_ringOf 60 = .ok (.iload 7, 2) := by decide +kernel
theorem d_X1_ringOf_62 : decode cX1_ringOf 62 = .ok (.aload_n 0, 1) := by decide +kernel
theorem d_X1_ringOf_63 : decode cX1_ringOf 63 = .ok (.getfield 33, 3) := by decide +kernel
theorem d_X1_ringOf_66 : decode cX1_ringOf 66 = .ok (.getfield 49, 3) := by decide +kernel
theorem d_X1_ringOf_69 : decode cX1_ringOf 69 = .ok (.if_icmp .ge 36, 3) := by decide +kernel
theorem d_X1_ringOf_72 : decode cX1_ringOf 72 = .ok (.aload_n 0, 1) := by decide +kernel
theorem d_X1_ringOf_73 : decode cX1_ringOf 73 = .ok (.getfield 33, 3) := by decide +kernel
theorem d_X1_ringOf_76 : decode cX1_ringOf 76 = .ok (.getfield 52, 3) := by decide +kernel
theorem d_X1_ringOf_79 : decode cX1_ringOf 79 = .ok (.iload 7, 2) := by decide +kernel
theorem d_X1_ringOf_81 : decode cX1_ringOf 81 = .ok (.iaload, 1) := by decide +kernel
theorem d_X1_ringOf_82 : decode cX1_ringOf 82 = .ok (.iload_n 2, 1) := by decide +kernel
theorem d_X1_ringOf_83 : decode cX1_ringOf 83 = .ok (.if_icmp .ne 16, 3) := by decide +kernel
theorem d_X1_ringOf_86 : decode cX1_ringOf 86 = .ok (.iload 4, 2) := by decide +kernel
theorem d_X1_ringOf_88 : decode cX1_ringOf 88 = .ok (.aload_n 0, 1) := by decide +kernel
theorem d_X1_ringOf_89 : decode cX1_ringOf 89 = .ok (.iload 7, 2) := by decide +kernel
theorem d_X1_ringOf_91 : decode cX1_ringOf 91 = .ok (.iload 4, 2) := by decide +kernel
theorem d_X1_ringOf_93 : decode cX1_ringOf 93 = .ok (.invokevirtual 55, 3) := by decide +kernel
theorem d_X1_ringOf_96 : decode cX1_ringOf 96 = .ok (.ior, 1) := by decide +kernel
theorem d_X1_ringOf_97 : decode cX1_ringOf 97 = .ok (.istore 4, 2) := by decide +kernel
theorem d_X1_ringOf_99 : decode cX1_ringOf 99 = .ok (.iinc 7 1, 3) := by decide +kernel
theorem d_X1_ringOf_102 : decode cX1_ringOf 102 = .ok (.goto (-42), 3) := by decide +kernel
theorem d_X1_ringOf_105 : decode cX1_ringOf 105 = .ok (.iload 4, 2) := by decide +kernel
theorem d_X1_ringOf_107 : decode cX1_ringOf 107 = .ok (.iload 6, 2) := by decide +kernel
theorem d_X1_ringOf_109 : decode cX1_ringOf 109 = .ok (.if_icmp .eq 21, 3) := by decide +kernel
theorem d_X1_ringOf_112 : decode cX1_ringOf 112 = .ok (.iload 4, 2) := by decide +kernel
theorem d_X1_ringOf_114 : decode cX1_ringOf 114 = .ok (.iload_n 3, 1) := by decide +kernel
theorem d_X1_ringOf_115 : decode cX1_ringOf 115 = .ok (.ishr, 1) := by decide +kernel
theorem d_X1_ringOf_116 : decode cX1_ringOf 116 = .ok (.iconst 1, 1) := by decide +kernel
theorem d_X1_ringOf_117 : decode cX1_ringOf 117 = .ok (.iand, 1) := by decide +kernel
theorem d_X1_ringOf_118 : decode cX1_ringOf 118 = .ok (.ifCond .eq 6, 3) := by decide +kernel
theorem d_X1_ringOf_121 : decode cX1_ringOf 121 = .ok (.goto 9, 3) := by decide +kernel
theorem d_X1_ringOf_124 : decode cX1_ringOf 124 = .ok (.iinc 5 1, 3) := by decide +kernel
theorem d_X1_ringOf_127 : decode cX1_ringOf 127 = .ok (.goto (-86), 3) := by decide +kernel
theorem d_X1_ringOf_130 : decode cX1_ringOf 130 = .ok (.iload 4, 2) := by decide +kernel
theorem d_X1_ringOf_132 : decode cX1_ringOf 132 = .ok (.iload_n 3, 1) := by decide +kernel
theorem d_X1_ringOf_133 : decode cX1_ringOf 133 = .ok (.ishr, 1) := by decide +kernel
theorem d_X1_ringOf_134 : decode cX1_ringOf 134 = .ok (.iconst 1, 1) := by decide +kernel
theorem d_X1_ringOf_135 : decode cX1_ringOf 135 = .ok (.iand, 1) := by decide +kernel
theorem d_X1_ringOf_136 : decode cX1_ringOf 136 = .ok (.ifCond .eq 12, 3) := by decide +kernel
theorem d_X1_ringOf_139 : decode cX1_ringOf 139 = .ok (.aload_n 0, 1) := by decide +kernel
theorem d_X1_ringOf_140 : decode cX1_ringOf 140 = .ok (.getfield 9, 3) := by decide +kernel
theorem d_X1_ringOf_143 : decode cX1_ringOf 143 = .ok (.iload_n 3, 1) := by decide +kernel
theorem d_X1_ringOf_144 : decode cX1_ringOf 144 = .ok (.iaload, 1) := by decide +kernel
theorem d_X1_ringOf_145 : decode cX1_ringOf 145 = .ok (.goto 4, 3) := by decide +kernel
theorem d_X1_ringOf_148 : decode cX1_ringOf 148 = .ok (.iconst 0, 1) := by decide +kernel
theorem d_X1_ringOf_149 : decode cX1_ringOf 149 = .ok (.ireturn, 1) := by decide +kernel
theorem d_X11_whyNotPut_0 : decode cX11_whyNotPut 0 = .ok (.aload_n 0, 1) := by decide +kernel
theorem d_X11_whyNotPut_1 : decode cX11_whyNotPut 1 = .ok (.getfield 10, 3) := by decide +kernel
theorem d_X11_whyNotPut_4 : decode cX11_whyNotPut 4 = .ok (.iload_n 1, 1) := by decide +kernel
theorem d_X11_whyNotPut_5 : decode cX11_whyNotPut 5 = .ok (.invokevirtual 166, 3) := by decide +kernel
theorem d_X11_whyNotPut_8 : decode cX11_whyNotPut 8 = .ok (.ifCond .ne 5, 3) := by decide +kernel
theorem d_X11_whyNotPut_11 : decode cX11_whyNotPut 11 = .ok (.iconst 1, 1) := by decide +kernel
theorem d_X11_whyNotPut_12 : decode cX11_whyNotPut 12 = .ok (.ireturn, 1) := by decide +kernel
theorem d_X11_whyNotPut_13 : decode cX11_whyNotPut 13 = .ok (.aload_n 0, 1) := by decide +kernel
theorem d_X11_whyNotPut_14 : decode cX11_whyNotPut 14 = .ok (.getfield 10, 3) := by decide +kernel
theorem d_X11_whyNotPut_17 : decode cX11_whyNotPut 17 = .ok (.getfield 139, 3) := by decide +kernel
theorem d_X11_whyNotPut_20 : decode cX11_whyNotPut 20 = .ok (.iload_n 1, 1) := by decide +kernel
theorem d_X11_whyNotPut_21 : decode cX11_whyNotPut 21 = .ok (.iaload, 1) := by decide +kernel
theorem d_X11_whyNotPut_22 : decode cX11_whyNotPut 22 = .ok (.iconst (-1), 1) := by decide +kernel
theorem d_X11_whyNotPut_23 : decode cX11_whyNotPut 23 = .ok (.if_icmp .eq 5, 3) := by decide +kernel
theorem d_X11_whyNotPut_26 : decode cX11_whyNotPut 26 = .ok (.iconst 2, 1) := by decide +kernel
theorem d_X11_whyNotPut_27 : decode cX11_whyNotPut 27 = .ok (.ireturn, 1) := by decide +kernel
theorem d_X11_whyNotPut_28 : decode cX11_whyNotPut 28 = .ok (.aload_n 0, 1) := by decide +kernel
theorem d_X11_whyNotPut_29 : decode cX11_whyNotPut 29 = .ok (.getfield 44, 3) := by decide +kernel
theorem d_X11_whyNotPut_32 : decode cX11_whyNotPut 32 = .ok (.iload_n 1, 1) := by decide +kernel
theorem d_X11_whyNotPut_33 : decode cX11_whyNotPut 33 = .ok (.iload_n 2, 1) := by decide +kernel
theorem d_X11_whyNotPut_34 : decode cX11_whyNotPut 34 = .ok (.invokevirtual 176, 3) := by decide +kernel
theorem d_X11_whyNotPut_37 : decode cX11_whyNotPut 37 = .ok (.ifCond .eq 7, 3) := by decide +kernel
theorem d_X11_whyNotPut_40 : decode cX11_whyNotPut 40 = .ok (.iconst 3, 1) := by decide +kernel
theorem d_X11_whyNotPut_41 : decode cX11_whyNotPut 41 = .ok (.goto 4, 3) := by decide +kernel
theorem d_X11_whyNotPut_44 : decode cX11_whyNotPut 44 = .ok (.iconst 0, 1) := by decide +kernel
theorem d_X11_whyNotPut_45 : decode cX11_whyNotPut 45 = .ok (.ireturn, 1) := by decide +kernel
theorem d_X0_before_0 : decode cX0_before 0 = .ok (.aload_n 0, 1) := by decide +kernel
theorem d_X0_before_1 : decode cX0_before 1 = .ok (.getfield 11, 3) := by decide +kernel
theorem d_X0_before_4 : decode cX0_before 4 = .ok (.aload_n 0, 1) := by decide +kernel
theorem d_X0_before_5 : decode cX0_before 5 = .ok (.getfield 20, 3) := by decide +kernel
theorem d_X0_before_8 : decode cX0_before 8 = .ok (.aaload, 1) := by decide +kernel
theorem d_X0_before_9 : decode cX0_before 9 = .ok (.aload_n 0, 1) := by decide +kernel
theorem d_X0_before_10 : decode cX0_before 10 = .ok (.getfield 15, 3) := by decide +kernel
theorem d_X0_before_13 : decode cX0_before 13 = .ok (.invokevirtual 24, 3) := by decide +kernel
theorem d_X0_before_16 : decode cX0_before 16 = .ok (.return_, 1) := by decide +kernel
theorem d_X0_done_0 : decode cX0_done 0 = .ok (.aload_n 0, 1) := by decide +kernel
theorem d_X0_done_1 : decode cX0_done 1 = .ok (.aload_n 0, 1) := by decide +kernel
theorem d_X0_done_2 : decode cX0_done 2 = .ok (.getfield 20, 3) := by decide +kernel
theorem d_X0_done_5 : decode cX0_done 5 = .ok (.bipush 8, 2) := by decide +kernel
theorem d_X0_done_7 : decode cX0_done 7 = .ok (.if_icmp .ge 12, 3) := by decide +kernel
theorem d_X0_done_10 : decode cX0_done 10 = .ok (.aload_n 0, 1) := by decide +kernel
theorem d_X0_done_11 : decode cX0_done 11 = .ok (.getfield 20, 3) := by decide +kernel
theorem d_X0_done_14 : decode cX0_done 14 = .ok (.iconst 1, 1) := by decide +kernel
theorem d_X0_done_15 : decode cX0_done 15 = .ok (.iadd, 1) := by decide +kernel
theorem d_X0_done_16 : decode cX0_done 16 = .ok (.goto 4, 3) := by decide +kernel
theorem d_X0_done_19 : decode cX0_done 19 = .ok (.iconst 0, 1) := by decide +kernel
theorem d_X0_done_20 : decode cX0_done 20 = .ok (.putfield 20, 3) := by decide +kernel
theorem d_X0_done_23 : decode cX0_done 23 = .ok (.aload_n 0, 1) := by decide +kernel
theorem d_X0_done_24 : decode cX0_done 24 = .ok (.getfield 28, 3) := by decide +kernel
theorem d_X0_done_27 : decode cX0_done 27 = .ok (.bipush 8, 2) := by decide +kernel
theorem d_X0_done_29 : decode cX0_done 29 = .ok (.if_icmp .ge 13, 3) := by decide +kernel
theorem d_X0_done_32 : decode cX0_done 32 = .ok (.aload_n 0, 1) := by decide +kernel
theorem d_X0_done_33 : decode cX0_done 33 = .ok (.dup, 1) := by decide +kernel
theorem d_X0_done_34 : decode cX0_done 34 = .ok (.getfield 28, 3) := by decide +kernel
theorem d_X0_done_37 : decode cX0_done 37 = .ok (.iconst 1, 1) := by decide +kernel
theorem d_X0_done_38 : decode cX0_done 38 = .ok (.iadd, 1) := by decide +kernel
theorem d_X0_done_39 : decode cX0_done 39 = .ok (.putfield 28, 3) := by decide +kernel
theorem d_X0_done_42 : decode cX0_done 42 = .ok (.return_, 1) := by decide +kernel
theorem d_X11_put_0 : decode cX11_put 0 = .ok (.aload_n 0, 1) := by decide +kernel
theorem d_X11_put_1 : decode cX11_put 1 = .ok (.getfield 10, 3) := by decide +kernel
theorem d_X11_put_4 : decode cX11_put 4 = .ok (.iload_n 1, 1) := by decide +kernel
theorem d_X11_put_5 : decode cX11_put 5 = .ok (.invokevirtual 146, 3) := by decide +kernel
theorem d_X11_put_8 : decode cX11_put 8 = .ok (.ifCond .eq 14, 3) := by decide +kernel
theorem d_X11_put_11 : decode cX11_put 11 = .ok (.aload_n 0, 1) := by decide +kernel
theorem d_X11_put_12 : decode cX11_put 12 = .ok (.getfield 10, 3) := by decide +kernel
theorem d_X11_put_15 : decode cX11_put 15 = .ok (.iload_n 2, 1) := by decide +kernel
theorem d_X11_put_16 : decode cX11_put 16 = .ok (.invokevirtual 169, 3) := by decide +kernel
theorem d_X11_put_19 : decode cX11_put 19 = .ok (.ifCond .ne 5, 3) := by decide +kernel
theorem d_X11_put_22 : decode cX11_put 22 = .ok (.iconst (-1), 1) := by decide +kernel
theorem d_X11_put_23 : decode cX11_put 23 = .ok (.ireturn, 1) := by decide +kernel
theorem d_X11_put_24 : decode cX11_put 24 = .ok (.aload_n 0, 1) := by decide +kernel
theorem d_X11_put_25 : decode cX11_put 25 = .ok (.iload_n 1, 1) := by decide +kernel
theorem d_X11_put_26 : decode cX11_put 26 = .ok (.iload_n 2, 1) := by decide +kernel
theorem d_X11_put_27 : decode cX11_put 27 = .ok (.invokevirtual 204, 3) := by decide +kernel
theorem d_X11_put_30 : decode cX11_put 30 = .ok (.istore_n 3, 1) := by decide +kernel
theorem d_X11_put_31 : decode cX11_put 31 = .ok (.iload_n 3, 1) := by decide +kernel
theorem d_X11_put_32 : decode cX11_put 32 = .ok (.ifCond .ne 27, 3) := by decide +kernel
theorem d_X11_put_35 : decode cX11_put 35 = .ok (.aload_n 0, 1) := by decide +kernel
theorem d_X11_put_36 : decode cX11_put 36 = .ok (.getfield 37, 3) := by decide +kernel
theorem d_X11_put_39 : decode cX11_put 39 = .ok (.invokevirtual 133, 3) := by decide +kernel
theorem d_X11_put_42 : decode cX11_put 42 = .ok (.aload_n 0, 1) := by decide +kernel
theorem d_X11_put_43 : decode cX11_put 43 = .ok (.getfield 10, 3) := by decide +kernel
theorem d_X11_put_46 : decode cX11_put 46 = .ok (.getfield 139, 3) := by decide +kernel
theorem d_X11_put_49 : decode cX11_put 49 = .ok (.iload_n 1, 1) := by decide +kernel
theorem d_X11_put_50 : decode cX11_put 50 = .ok (.iload_n 2, 1) := by decide +kernel
theorem d_X11_put_51 : decode cX11_put 51 = .ok (.iastore, 1) := by decide +kernel
theorem d_X11_put_52 : decode cX11_put 52 = .ok (.aload_n 0, 1) := by decide +kernel
theorem d_X11_put_53 : decode cX11_put 53 = .ok (.getfield 37, 3) := by decide +kernel
theorem d_X11_put_56 : decode cX11_put 56 = .ok (.invokevirtual 143, 3) := by decide +kernel
theorem d_X11_put_59 : decode cX11_put 59 = .ok (.iload_n 3, 1) := by decide +kernel
theorem d_X11_put_60 : decode cX11_put 60 = .ok (.ireturn, 1) := by decide +kernel
theorem d_X11_lift_0 : decode cX11_lift 0 = .ok (.aload_n 0, 1) := by decide +kernel
theorem d_X11_lift_1 : decode cX11_lift 1 = .ok (.getfield 10, 3) := by decide +kernel
theorem d_X11_lift_4 : decode cX11_lift 4 = .ok (.iload_n 1, 1) := by decide +kernel
theorem d_X11_lift_5 : decode cX11_lift 5 = .ok (.invokevirtual 146, 3) := by decide +kernel
theorem d_X11_lift_8 : decode cX11_lift 8 = .ok (.ifCond .eq 16, 3) := by decide +kernel
theorem d_X11_lift_11 : decode cX11_lift 11 = .ok (.aload_n 0, 1) := by decide +kernel
theorem d_X11_lift_12 : decode cX11_lift 12 = .ok (.getfield 10, 3) := by decide +kernel
theorem d_X11_lift_15 : decode cX11_lift 15 = .ok (.getfield 139, 3) := by decide +kernel
theorem d_X11_lift_18 : decode cX11_lift 18 = .ok (.iload_n 1, 1) := by decide +kernel
theorem d_X11_lift_19 : decode cX11_lift 19 = .ok (.iaload, 1) := by decide +kernel
theorem d_X11_lift_20 : decode cX11_lift 20 = .ok (.iconst (-1), 1) := by decide +kernel
theorem d_X11_lift_21 : decode cX11_lift 21 = .ok (.if_icmp .ne 5, 3) := by decide +kernel
theorem d_X11_lift_24 : decode cX11_lift 24 = .ok (.iconst (-1), 1) := by decide +kernel
theorem d_X11_lift_25 : decode cX11_lift 25 = .ok (.ireturn, 1) := by decide +kernel
theorem d_X11_lift_26 : decode cX11_lift 26 = .ok (.aload_n 0, 1) := by decide +kernel
theorem d_X11_lift_27 : decode cX11_lift 27 = .ok (.getfield 37, 3) := by decide +kernel
theorem d_X11_lift_30 : decode cX11_lift 30 = .ok (.invokevirtual 133, 3) := by decide +kernel
theorem d_X11_lift_33 : decode cX11_lift 33 = .ok (.aload_n 0, 1) := by decide +kernel
theorem d_X11_lift_34 : decode cX11_lift 34 = .ok (.getfield 10, 3) := by decide +kernel
theorem d_X11_lift_37 : decode cX11_lift 37 = .ok (.getfield 139, 3) := by decide +kernel
theorem d_X11_lift_40 : decode cX11_lift 40 = .ok (.iload_n 1, 1) := by decide +kernel
theorem d_X11_lift_41 : decode cX11_lift 41 = .ok (.iaload, 1) := by decide +kernel
theorem d_X11_lift_42 : decode cX11_lift 42 = .ok (.istore_n 2, 1) := by decide +kernel
theorem d_X11_lift_43 : decode cX11_lift 43 = .ok (.aload_n 0, 1) := by decide +kernel
theorem d_X11_lift_44 : decode cX11_lift 44 = .ok (.getfield 10, 3) := by decide +kernel
theorem d_X11_lift_47 : decode cX11_lift 47 = .ok (.getfield 139, 3) := by decide +kernel
theorem d_X11_lift_50 : decode cX11_lift 50 = .ok (.iload_n 1, 1) := by decide +kernel
theorem d_X11_lift_51 : decode cX11_lift 51 = .ok (.iconst (-1), 1) := by decide +kernel
theorem d_X11_lift_52 : decode cX11_lift 52 = .ok (.iastore, 1) := by decide +kernel
theorem d_X11_lift_53 : decode cX11_lift 53 = .ok (.aload_n 0, 1) := by decide +kernel
theorem d_X11_lift_54 : decode cX11_lift 54 = .ok (.getfield 37, 3) := by decide +kernel
theorem d_X11_lift_57 : decode cX11_lift 57 = .ok (.invokevirtual 143, 3) := by decide +kernel
theorem d_X11_lift_60 : decode cX11_lift 60 = .ok (.iload_n 2, 1) := by decide +kernel
theorem d_X11_lift_61 : decode cX11_lift 61 = .ok (.ireturn, 1) := by decide +kernel
theorem d_X11_canBePlaced_0 : decode cX11_canBePlaced 0 = .ok (.aload_n 0, 1) := by decide +kernel
theorem d_X11_canBePlaced_1 : decode cX11_canBePlaced 1 = .ok (.getfield 10, 3) := by decide +kernel
theorem d_X11_canBePlaced_4 : decode cX11_canBePlaced 4 = .ok (.iload_n 1, 1) := by decide +kernel
theorem d_X11_canBePlaced_5 : decode cX11_canBePlaced 5 = .ok (.invokevirtual 146, 3) := by decide +kernel
theorem d_X11_canBePlaced_8 : decode cX11_canBePlaced 8 = .ok (.ifCond .eq 31, 3) := by decide +kernel
theorem d_X11_canBePlaced_11 : decode cX11_canBePlaced 11 = .ok (.aload_n 0, 1) := by decide +kernel
theorem d_X11_canBePlaced_12 : decode cX11_canBePlaced 12 = .ok (.getfield 10, 3) := by decide +kernel
theorem d_X11_canBePlaced_15 : decode cX11_canBePlaced 15 = .ok (.iload_n 1, 1) := by decide +kernel
theorem d_X11_canBePlaced_16 : decode cX11_canBePlaced 16 = .ok (.invokevirtual 166, 3) := by decide +kernel
theorem d_X11_canBePlaced_19 : decode cX11_canBePlaced 19 = .ok (.ifCond .eq 20, 3) := by decide +kernel
theorem d_X11_canBePlaced_22 : decode cX11_canBePlaced 22 = .ok (.aload_n 0, 1) := by decide +kernel
theorem d_X11_canBePlaced_23 : decode cX11_canBePlaced 23 = .ok (.getfield 10, 3) := by decide +kernel
theorem d_X11_canBePlaced_26 : decode cX11_canBePlaced 26 = .ok (.getfield 139, 3) := by decide +kernel
theorem d_X11_canBePlaced_29 : decode cX11_canBePlaced 29 = .ok (.iload_n 1, 1) := by decide +kernel
theorem d_X11_canBePlaced_30 : decode cX11_canBePlaced 30 = .ok (.iaload, 1) := by decide +kernel
theorem d_X11_canBePlaced_31 : decode cX11_canBePlaced 31 = .ok (.iconst (-1), 1) := by decide +kernel
theorem d_X11_canBePlaced_32 : decode cX11_canBePlaced 32 = .ok (.if_icmp .ne 7, 3) := by decide +kernel
theorem d_X11_canBePlaced_35 : decode cX11_canBePlaced 35 = .ok (.iconst 1, 1) := by decide +kernel
theorem d_X11_canBePlaced_36 : decode cX11_canBePlaced 36 = .ok (.goto 4, 3) := by decide +kernel
theorem d_X11_canBePlaced_39 : decode cX11_canBePlaced 39 = .ok (.iconst 0, 1) := by decide +kernel
theorem d_X11_canBePlaced_40 : decode cX11_canBePlaced 40 = .ok (.ireturn, 1) := by decide +kernel
theorem d_X1_freeForest_0 : decode cX1_freeForest 0 = .ok (.iconst 0, 1) := by decide +kernel
theorem d_X1_freeForest_1 : decode cX1_freeForest 1 = .ok (.istore_n 2, 1) := by decide +kernel
theorem d_X1_freeForest_2 : decode cX1_freeForest 2 = .ok (.iload_n 2, 1) := by decide +kernel
theorem d_X1_freeForest_3 : decode cX1_freeForest 3 = .ok (.aload_n 0, 1) := by decide +kernel
theorem d_X1_freeForest_4 : decode cX1_freeForest 4 = .ok (.getfield 33, 3) := by decide +kernel
theorem d_X1_freeForest_7 : decode cX1_freeForest 7 = .ok (.getfield 76, 3) := by decide +kernel
theorem d_X1_freeForest_10 : decode cX1_freeForest 10 = .ok (.if_icmp .ge 33, 3) := by decide +kernel
theorem d_X1_freeForest_13 : decode cX1_freeForest 13 = .ok (.aload_n 0, 1) := by decide +kernel
theorem d_X1_freeForest_14 : decode cX1_freeForest 14 = .ok (.getfield 33, 3) := by decide +kernel
theorem d_X1_freeForest_17 : decode cX1_freeForest 17 = .ok (.getfield 52, 3) := by decide +kernel
theorem d_X1_freeForest_20 : decode cX1_freeForest 20 = .ok (.iload_n 1, 1) := by decide +kernel
theorem d_X1_freeForest_21 : decode cX1_freeForest 21 = .ok (.iaload, 1) := by decide +kernel
theorem d_X1_freeForest_22 : decode cX1_freeForest 22 = .ok (.iload_n 2, 1) := by decide +kernel
theorem d_X1_freeForest_23 : decode cX1_freeForest 23 = .ok (.if_icmp .eq 14, 3) := by decide +kernel
theorem d_X1_freeForest_26 : decode cX1_freeForest 26 = .ok (.aload_n 0, 1) := by decide +kernel
theorem d_X1_freeForest_27 : decode cX1_freeForest 27 = .ok (.iload_n 1, 1) := by decide +kernel
theorem d_X1_freeForest_28 : decode cX1_freeForest 28 = .ok (.iload_n 2, 1) := by decide +kernel
theorem d_X1_freeForest_29 : decode cX1_freeForest 29 = .ok (.invokevirtual 79, 3) := by decide +kernel
theorem d_X1_freeForest_32 : decode cX1_freeForest 32 = .ok (.ifCond .ne 5, 3) := by decide +kernel
theorem d_X1_freeForest_35 : decode cX1_freeForest 35 = .ok (.iload_n 2, 1) := by decide +kernel
theorem d_X1_freeForest_36 : decode cX1_freeForest 36 = .ok (.ireturn, 1) := by decide +kernel
theorem d_X1_freeForest_37 : decode cX1_freeForest 37 = .ok (.iinc 2 1, 3) := by decide +kernel
theorem d_X1_freeForest_40 : decode cX1_freeForest 40 = .ok (.goto (-38), 3) := by decide +kernel
theorem d_X1_freeForest_43 : decode cX1_freeForest 43 = .ok (.iconst (-1), 1) := by decide +kernel
theorem d_X1_freeForest_44 : decode cX1_freeForest 44 = .ok (.ireturn, 1) := by decide +kernel
theorem d_X1_allRings_0 : decode cX1_allRings 0 = .ok (.iconst 0, 1) := by decide +kernel
theorem d_X1_allRings_1 : decode cX1_allRings 1 = .ok (.istore_n 2, 1) := by decide +kernel
theorem d_X1_allRings_2 : decode cX1_allRings 2 = .ok (.iconst 0, 1) := by decide +kernel
theorem d_X1_allRings_3 : decode cX1_allRings 3 = .ok (.istore_n 3, 1) := by decide +kernel
theorem d_X1_allRings_4 : decode cX1_allRings 4 = .ok (.iload_n 3, 1) := by decide +kernel
theorem d_X1_allRings_5 : decode cX1_allRings 5 = .ok (.aload_n 0, 1) := by decide +kernel
theorem d_X1_allRings_6 : decode cX1_allRings 6 = .ok (.getfield 33, 3) := by decide +kernel
theorem d_X1_allRings_9 : decode cX1_allRings 9 = .ok (.getfield 76, 3) := by decide +kernel
theorem d_X1_allRings_12 : decode cX1_allRings 12 = .ok (.if_icmp .ge 31, 3) := by decide +kernel
theorem d_X1_allRings_15 : decode cX1_allRings 15 = .ok (.aload_n 0, 1) := by decide +kernel
theorem d_X1_allRings_16 : decode cX1_allRings 16 = .ok (.getfield 33, 3) := by decide +kernel
theorem d_X1_allRings_19 : decode cX1_allRings 19 = .ok (.getfield 52, 3) := by decide +kernel
theorem d_X1_allRings_22 : decode cX1_allRings 22 = .ok (.iload_n 1, 1) := by decide +kernel
theorem d_X1_allRings_23 : decode cX1_allRings 23 = .ok (.iaload, 1) := by decide +kernel
theorem d_X1_allRings_24 : decode cX1_allRings 24 = .ok (.iload_n 3, 1) := by decide +kernel
theorem d_X1_allRings_25 : decode cX1_allRings 25 = .ok (.if_icmp .eq 12, 3) := by decide +kernel
theorem d_X1_allRings_28 : decode cX1_allRings 28 = .ok (.iload_n 2, 1) := by decide +kernel
theorem d_X1_allRings_29 : decode cX1_allRings 29 = .ok (.aload_n 0, 1) := by decide +kernel
theorem d_X1_allRings_30 : decode cX1_allRings 30 = .ok (.iload_n 1, 1) := by decide +kernel
theorem d_X1_allRings_31 : decode cX1_allRings 31 = .ok (.iload_n 3, 1) := by decide +kernel
theorem d_X1_allRings_32 : decode cX1_allRings 32 = .ok (.invokevirtual 79, 3) := by decide +kernel
theorem d_X1_allRings_35 : decode cX1_allRings 35 = .ok (.ior, 1) := by decide +kernel
theorem d_X1_allRings_36 : decode cX1_allRings 36 = .ok (.istore_n 2, 1) := by decide +kernel
theorem d_X1_allRings_37 : decode cX1_allRings 37 = .ok (.iinc 3 1, 3) := by decide +kernel
theorem d_X1_allRings_40 : decode cX1_allRings 40 = .ok (.goto (-36), 3) := by decide +kernel
theorem d_X1_allRings_43 : decode cX1_allRings 43 = .ok (.iload_n 2, 1) := by decide +kernel
theorem d_X1_allRings_44 : decode cX1_allRings 44 = .ok (.ireturn, 1) := by decide +kernel
theorem d_X1_writeDown_0 : decode cX1_writeDown 0 = .ok (.iload_n 1, 1) := by decide +kernel
theorem d_X1_writeDown_1 : decode cX1_writeDown 1 = .ok (.istore_n 3, 1) := by decide +kernel
theorem d_X1_writeDown_2 : decode cX1_writeDown 2 = .ok (.iload_n 3, 1) := by decide +kernel
theorem d_X1_writeDown_3 : decode cX1_writeDown 3 = .ok (.ifCond .lt 32, 3) := by decide +kernel
theorem d_X1_writeDown_6 : decode cX1_writeDown 6 = .ok (.aload_n 0, 1) := by decide +kernel
theorem d_X1_writeDown_7 : decode cX1_writeDown 7 = .ok (.getfield 59, 3) := by decide +kernel
theorem d_X1_writeDown_10 : decode cX1_writeDown 10 = .ok (.bipush 24, 2) := by decide +kernel
theorem d_X1_writeDown_12 : decode cX1_writeDown 12 = .ok (.if_icmp .ge 23, 3) := by decide +kernel
theorem d_X1_writeDown_15 : decode cX1_writeDown 15 = .ok (.aload_n 0, 1) := by decide +kernel
theorem d_X1_writeDown_16 : decode cX1_writeDown 16 = .ok (.dup, 1) := by decide +kernel
theorem d_X1_writeDown_17 : decode cX1_writeDown 17 = .ok (.getfield 59, 3) := by decide +kernel
theorem d_X1_writeDown_20 : decode cX1_writeDown 20 = .ok (.iconst 1, 1) := by decide +kernel
theorem d_X1_writeDown_21 : decode cX1_writeDown 21 = .ok (.iadd, 1) := by decide +kernel
theorem d_X1_writeDown_22 : decode cX1_writeDown 22 = .ok (.putfield 59, 3) := by decide +kernel
theorem d_X1_writeDown_25 : decode cX1_writeDown 25 = .ok (.aload_n 0, 1) := by decide +kernel
theorem d_X1_writeDown_26 : decode cX1_writeDown 26 = .ok (.getfield 18, 3) := by decide +kernel
theorem d_X1_writeDown_29 : decode cX1_writeDown 29 = .ok (.iload_n 3, 1) := by decide +kernel
theorem d_X1_writeDown_30 : decode cX1_writeDown 30 = .ok (.iaload, 1) := by decide +kernel
theorem d_X1_writeDown_31 : decode cX1_writeDown 31 = .ok (.istore_n 3, 1) := by decide +kernel
theorem d_X1_writeDown_32 : decode cX1_writeDown 32 = .ok (.goto (-30), 3) := by decide +kernel
theorem d_X1_writeDown_35 : decode cX1_writeDown 35 = .ok (.iload_n 1, 1) := by decide +kernel
theorem d_X1_writeDown_36 : decode cX1_writeDown 36 = .ok (.istore_n 3, 1) := by decide +kernel
theorem d_X1_writeDown_37 : decode cX1_writeDown 37 = .ok (.iload_n 2, 1) := by decide +kernel
theorem d_X1_writeDown_38 : decode cX1_writeDown 38 = .ok (.istore 4, 2) := by decide +kernel
theorem d_X1_writeDown_40 : decode cX1_writeDown 40 = .ok (.aload_n 0, 1) := by decide +kernel
theorem d_X1_writeDown_41 : decode cX1_writeDown 41 = .ok (.getfield 59, 3) := by decide +kernel
theorem d_X1_writeDown_44 : decode cX1_writeDown 44 = .ok (.iconst 1, 1) := by decide +kernel
theorem d_X1_writeDown_45 : decode cX1_writeDown 45 = .ok (.isub, 1) := by decide +kernel
theorem d_X1_writeDown_46 : decode cX1_writeDown 46 = .ok (.istore 5, 2) := by decide +kernel
theorem d_X1_writeDown_48 : decode cX1_writeDown 48 = .ok (.iload 5, 2) := by decide +kernel
theorem d_X1_writeDown_50 : decode cX1_writeDown 50 = .ok (.ifCond .lt 58, 3) := by decide +kernel
theorem d_X1_writeDown_53 : decode cX1_writeDown 53 = .ok (.iload_n 3, 1) := by decide +kernel
theorem d_X1_writeDown_54 : decode cX1_writeDown 54 = .ok (.ifCond .lt 54, 3) := by decide +kernel
theorem d_X1_writeDown_57 : decode cX1_writeDown 57 = .ok (.aload_n 0, 1) := by decide +kernel
theorem d_X1_writeDown_58 : decode cX1_writeDown 58 = .ok (.getfield 21, 3) := by decide +kernel
theorem d_X1_writeDown_61 : decode cX1_writeDown 61 = .ok (.iload 5, 2) := by decide +kernel
theorem d_X1_writeDown_63 : decode cX1_writeDown 63 = .ok (.aload_n 0, 1) := by decide +kernel
theorem d_X1_writeDown_64 : decode cX1_writeDown 64 = .ok (.getfield 15, 3) := by decide +kernel
theorem d_X1_writeDown_67 : decode cX1_writeDown 67 = .ok (.iload_n 3, 1) := by decide +kernel
theorem d_X1_writeDown_68 : decode cX1_writeDown 68 = .ok (.iaload, 1) := by decide +kernel
theorem d_X1_writeDown_69 : decode cX1_writeDown 69 = .ok (.iastore, 1) := by decide +kernel
theorem d_X1_writeDown_70 : decode cX1_writeDown 70 = .ok (.aload_n 0, 1) := by decide +kernel
theorem d_X1_writeDown_71 : decode cX1_writeDown 71 = .ok (.getfield 24, 3) := by decide +kernel
theorem d_X1_writeDown_74 : decode cX1_writeDown 74 = .ok (.iload 5, 2) := by decide +kernel
theorem d_X1_writeDown_76 : decode cX1_writeDown 76 = .ok (.iload 4, 2) := by decide +kernel
theorem d_X1_writeDown_78 : decode cX1_writeDown 78 = .ok (.iastore, 1) := by decide +kernel
theorem d_X1_writeDown_79 : decode cX1_writeDown 79 = .ok (.aload_n 0, 1) := by decide +kernel
theorem d_X1_writeDown_80 : decode cX1_writeDown 80 = .ok (.getfield 33, 3) := by decide +kernel
theorem d_X1_writeDown_83 : decode cX1_writeDown 83 = .ok (.getfield 52, 3) := by decide +kernel
theorem d_X1_writeDown_86 : decode cX1_writeDown 86 = .ok (.aload_n 0, 1) := by decide +kernel
theorem d_X1_writeDown_87 : decode cX1_writeDown 87 = .ok (.getfield 15, 3) := by decide +kernel
theorem d_X1_writeDown_90 : decode cX1_writeDown 90 = .ok (.iload_n 3, 1) := by decide +kernel
theorem d_X1_writeDown_91 : decode cX1_writeDown 91 = .ok (.iaload, 1) := by decide +kernel
theorem d_X1_writeDown_92 : decode cX1_writeDown 92 = .ok (.iaload, 1) := by decide +kernel
theorem d_X1_writeDown_93 : decode cX1_writeDown 93 = .ok (.istore 4, 2) := by decide +kernel
theorem d_X1_writeDown_95 : decode cX1_writeDown 95 = .ok (.aload_n 0, 1) := by decide +kernel
theorem d_X1_writeDown_96 : decode cX1_writeDown 96 = .ok (.getfield 18, 3) := by decide +kernel
theorem d_X1_writeDown_99 : decode cX1_writeDown 99 = .ok (.iload_n 3, 1) := by decide +kernel
theorem d_X1_writeDown_100 : decode cX1_writeDown 100 = .ok (.iaload, 1) := by decide +kernel
theorem d_X1_writeDown_101 : decode cX1_writeDown 101 = .ok (.istore_n 3, 1) := by decide +kernel
theorem d_X1_writeDown_102 : decode cX1_writeDown 102 = .ok (.iinc 5 (-1), 3) := by decide +kernel
theorem d_X1_writeDown_105 : decode cX1_writeDown 105 = .ok (.goto (-57), 3) := by decide +kernel
theorem d_X1_writeDown_108 : decode cX1_writeDown 108 = .ok (.return_, 1) := by decide +kernel
theorem d_X1_find_0 : decode cX1_find 0 = .ok (.aload_n 0, 1) := by decide +kernel
theorem d_X1_find_1 : decode cX1_find 1 = .ok (.iconst 0, 1) := by decide +kernel
theorem d_X1_find_2 : decode cX1_find 2 = .ok (.putfield 59, 3) := by decide +kernel
theorem d_X1_find_5 : decode cX1_find 5 = .ok (.aload_n 0, 1) := by decide +kernel
theorem d_X1_find_6 : decode cX1_find 6 = .ok (.iconst 1, 1) := by decide +kernel
theorem d_X1_find_7 : decode cX1_find 7 = .ok (.iload_n 1, 1) := by decide +kernel
theorem d_X1_find_8 : decode cX1_find 8 = .ok (.ishl, 1) := by decide +kernel
theorem d_X1_find_9 : decode cX1_find 9 = .ok (.putfield 62, 3) := by decide +kernel
theorem d_X1_find_12 : decode cX1_find 12 = .ok (.aload_n 0, 1) := by decide +kernel
theorem d_X1_find_13 : decode cX1_find 13 = .ok (.getfield 15, 3) := by decide +kernel
theorem d_X1_find_16 : decode cX1_find 16 = .ok (.iconst 0, 1) := by decide +kernel
theorem d_X1_find_17 : decode cX1_find 17 = .ok (.iload_n 1, 1) := by decide +kernel
theorem d_X1_find_18 : decode cX1_find 18 = .ok (.iastore, 1) := by decide +kernel
theorem d_X1_find_19 : decode cX1_find 19 = .ok (.aload_n 0, 1) := by decide +kernel
theorem d_X1_find_20 : decode cX1_find 20 = .ok (.getfield 18, 3) := by decide +kernel
theorem d_X1_find_23 : decode cX1_find 23 = .ok (.iconst 0, 1) := by decide +kernel
theorem d_X1_find_24 : decode cX1_find 24 = .ok (.iconst (-1), 1) := by decide +kernel
theorem d_X1_find_25 : decode cX1_find 25 = .ok (.iastore, 1) := by decide +kernel
theorem d_X1_find_26 : decode cX1_find 26 = .ok (.iconst 1, 1) := by decide +kernel
theorem d_X1_find_27 : decode cX1_find 27 = .ok (.istore_n 2, 1) := by decide +kernel
theorem d_X1_find_28 : decode cX1_find 28 = .ok (.iconst 0, 1) := by decide +kernel
theorem d_X1_find_29 : decode cX1_find 29 = .ok (.istore_n 3, 1) := by decide +kernel
theorem d_X1_find_30 : decode cX1_find 30 = .ok (.iload_n 3, 1) := by decide +kernel
theorem d_X1_find_31 : decode cX1_find 31 = .ok (.iload_n 2, 1) := by decide +kernel
theorem d_X1_find_32 : decode cX1_find 32 = .ok (.if_icmp .ge 130, 3) := by decide +kernel
theorem d_X1_find_35 : decode cX1_find 35 = .ok (.iload_n 3, 1) := by decide +kernel
theorem d_X1_find_36 : decode cX1_find 36 = .ok (.bipush 24, 2) := by decide +kernel
theorem d_X1_find_38 : decode cX1_find 38 = .ok (.if_icmp .ge 124, 3) := by decide +kernel
theorem d_X1_find_41 : decode cX1_find 41 = .ok (.aload_n 0, 1) := by decide +kernel
theorem d_X1_find_42 : decode cX1_find 42 = .ok (.getfield 15, 3) := by decide +kernel
theorem d_X1_find_45 : decode cX1_find 45 = .ok (.iload_n 3, 1) := by decide +kernel
theorem d_X1_find_46 : decode cX1_find 46 = .ok (.iaload, 1) := by decide +kernel
theorem d_X1_find_47 : decode cX1_find 47 = .ok (.istore 4, 2) := by decide +kernel
theorem d_X1_find_49 : decode cX1_find 49 = .ok (.aload_n 0, 1) := by decide +kernel
theorem d_X1_find_50 : decode cX1_find 50 = .ok (.iload 4, 2) := by decide +kernel
theorem d_X1_find_52 : decode cX1_find 52 = .ok (.invokevirtual 65, 3) := by decide +kernel
theorem d_X1_find_55 : decode cX1_find 55 = .ok (.istore 5, 2) := by decide +kernel
theorem d_X1_find_57 : decode cX1_find 57 = .ok (.iload 5, 2) := by decide +kernel
theorem d_X1_find_59 : decode cX1_find 59 = .ok (.iconst (-1), 1) := by decide +kernel
theorem d_X1_find_60 : decode cX1_find 60 = .ok (.if_icmp .eq 15, 3) := by decide +kernel
theorem d_X1_find_63 : decode cX1_find 63 = .ok (.aload_n 0, 1) := by decide +kernel
theorem d_X1_find_64 : decode cX1_find 64 = .ok (.iload_n 3, 1) := by decide +kernel
theorem d_X1_find_65 : decode cX1_find 65 = .ok (.iload 5, 2) := by decide +kernel
theorem d_X1_find_67 : decode cX1_find 67 = .ok (.invokevirtual 69, 3) := by decide +kernel
theorem d_X1_find_70 : decode cX1_find 70 = .ok (.aload_n 0, 1) := by decide +kernel
theorem d_X1_find_71 : decode cX1_find 71 = .ok (.getfield 59, 3) := by decide +kernel
theorem d_X1_find_74 : decode cX1_find 74 = .ok (.ireturn, 1) := by decide +kernel
theorem d_X1_find_75 : decode cX1_find 75 = .ok (.aload_n 0, 1) := by decide +kernel
theorem d_X1_find_76 : decode cX1_find 76 = .ok (.iload 4, 2) := by decide +kernel
theorem d_X1_find_78 : decode cX1_find 78 = .ok (.invokevirtual 73, 3) := by decide +kernel
theorem d_X1_find_81 : decode cX1_find 81 = .ok (.aload_n 0, 1) := by decide +kernel
theorem d_X1_find_82 : decode cX1_find 82 = .ok (.getfield 62, 3) := by decide +kernel
theorem d_X1_find_85 : decode cX1_find 85 = .ok (.iconst (-1), 1) := by decide +kernel
theorem d_X1_find_86 : decode cX1_find 86 = .ok (.ixor, 1) := by decide +kernel
theorem d_X1_find_87 : decode cX1_find 87 = .ok (.iand, 1) := by decide +kernel
theorem d_X1_find_88 : decode cX1_find 88 = .ok (.istore 6, 2) := by decide +kernel
theorem d_X1_find_90 : decode cX1_find 90 = .ok (.aload_n 0, 1) := by decide +kernel
theorem d_X1_find_91 : decode cX1_find 91 = .ok (.dup, 1) := by decide +kernel
theorem d_X1_find_92 : decode cX1_find 92 = .ok (.getfield 62, 3) := by decide +kernel
theorem d_X1_find_95 : decode cX1_find 95 = .ok (.iload 6, 2) := by decide +kernel
theorem d_X1_find_97 : decode cX1_find 97 = .ok (.ior, 1) := by decide +kernel
theorem d_X1_find_98 : decode cX1_find 98 = .ok (.putfield 62, 3) := by decide +kernel
theorem d_X1_find_101 : decode cX1_find 101 = .ok (.iconst 0, 1) := by decide +kernel
theorem d_X1_find_102 : decode cX1_find 102 = .ok (.istore 7, 2) := by decide +kernel
theorem d_X1_find_104 : decode cX1_find 104 = .ok (.iload 7, 2) := by decide +kernel
theorem d_X1_find_106 : decode cX1_find 106 = .ok (.aload_n 0, 1) := by decide +kernel
theorem d_X1_find_107 : decode cX1_find 107 = .ok (.getfield 33, 3) := by decide +kernel
theorem d_X1_find_110 : decode cX1_find 110 = .ok (.getfield 49, 3) := by decide +kernel
theorem d_X1_find_113 : decode cX1_find 113 = .ok (.if_icmp .ge 43, 3) := by decide +kernel
theorem d_X1_find_116 : decode cX1_find 116 = .ok (.iload_n 2, 1) := by decide +kernel
theorem d_X1_find_117 : decode cX1_find 117 = .ok (.bipush 24, 2) := by decide +kernel
theorem d_X1_find_119 : decode cX1_find 119 = .ok (.if_icmp .ge 37, 3) := by decide +kernel
theorem d_X1_find_122 : decode cX1_find 122 = .ok (.iload 6, 2) := by decide +kernel
theorem d_X1_find_124 : decode cX1_find 124 = .ok (.iload 7, 2) := by decide +kernel
theorem d_X1_find_126 : decode cX1_find 126 = .ok (.ishr, 1) := by decide +kernel
theorem d_X1_find_127 : decode cX1_find 127 = .ok (.iconst 1, 1) := by decide +kernel
theorem d_X1_find_128 : decode cX1_find 128 = .ok (.iand, 1) := by decide +kernel
theorem d_X1_find_129 : decode cX1_find 129 = .ok (.ifCond .eq 21, 3) := by decide +kernel
theorem d_X1_find_132 : decode cX1_find 132 = .ok (.aload_n 0, 1) := by decide +kernel
theorem d_X1_find_133 : decode cX1_find 133 = .ok (.getfield 15, 3) := by decide +kernel
theorem d_X1_find_136 : decode cX1_find 136 = .ok (.iload_n 2, 1) := by decide +kernel
theorem d_X1_find_137 : decode cX1_find 137 = .ok (.iload 7, 2) := by decide +kernel
theorem d_X1_find_139 : decode cX1_find 139 = .ok (.iastore, 1) := by decide +kernel
theorem d_X1_find_140 : decode cX1_find 140 = .ok (.aload_n 0, 1) := by decide +kernel
theorem d_X1_find_141 : decode cX1_find 141 = .ok (.getfield 18, 3) := by decide +kernel
theorem d_X1_find_144 : decode cX1_find 144 = .ok (.iload_n 2, 1) := by decide +kernel
theorem d_X1_find_145 : decode cX1_find 145 = .ok (.iload_n 3, 1) := by decide +kernel
theorem d_X1_find_146 : decode cX1_find 146 = .ok (.iastore, 1) := by decide +kernel
theorem d_X1_find_147 : decode cX1_find 147 = .ok (.iinc 2 1, 3) := by decide +kernel
theorem d_X1_find_150 : decode cX1_find 150 = .ok (.iinc 7 1, 3) := by decide +kernel
theorem d_X1_find_153 : decode cX1_find 153 = .ok (.goto (-49), 3) := by decide +kernel
theorem d_X1_find_156 : decode cX1_find 156 = .ok (.iinc 3 1, 3) := by decide +kernel
theorem d_X1_find_159 : decode cX1_find 159 = .ok (.goto (-129), 3) := by decide +kernel
theorem d_X1_find_162 : decode cX1_find 162 = .ok (.iconst 0, 1) := by decide +kernel
theorem d_X1_find_163 : decode cX1_find 163 = .ok (.ireturn, 1) := by decide +kernel
theorem d_X1_remember_0 : decode cX1_remember 0 = .ok (.aload_n 0, 1) := by decide +kernel
theorem d_X1_remember_1 : decode cX1_remember 1 = .ok (.getfield 59, 3) := by decide +kernel
theorem d_X1_remember_4 : decode cX1_remember 4 = .ok (.ifCond .le 46, 3) := by decide +kernel
theorem d_X1_remember_7 : decode cX1_remember 7 = .ok (.aload_n 0, 1) := by decide +kernel
theorem d_X1_remember_8 : decode cX1_remember 8 = .ok (.getfield 21, 3) := by decide +kernel
theorem d_X1_remember_11 : decode cX1_remember 11 = .ok (.iconst 0, 1) := by decide +kernel
theorem d_X1_remember_12 : decode cX1_remember 12 = .ok (.aload_n 0, 1) := by decide +kernel
theorem d_X1_remember_13 : decode cX1_remember 13 = .ok (.getfield 27, 3) := by decide +kernel
theorem d_X1_remember_16 : decode cX1_remember 16 = .ok (.iconst 0, 1) := by decide +kernel
theorem d_X1_remember_17 : decode cX1_remember 17 = .ok (.aload_n 0, 1) := by decide +kernel
theorem d_X1_remember_18 : decode cX1_remember 18 = .ok (.getfield 59, 3) := by decide +kernel
theorem d_X1_remember_21 : decode cX1_remember 21 = .ok (.invokestatic 82, 3) := by decide +kernel
theorem d_X1_remember_24 : decode cX1_remember 24 = .ok (.aload_n 0, 1) := by decide +kernel
theorem d_X1_remember_25 : decode cX1_remember 25 = .ok (.getfield 24, 3) := by decide +kernel
theorem d_X1_remember_28 : decode cX1_remember 28 = .ok (.iconst 0, 1) := by decide +kernel
theorem d_X1_remember_29 : decode cX1_remember 29 = .ok (.aload_n 0, 1) := by decide +kernel
theorem d_X1_remember_30 : decode cX1_remember 30 = .ok (.getfield 30, 3) := by decide +kernel
theorem d_X1_remember_33 : decode cX1_remember 33 = .ok (.iconst 0, 1) := by decide +kernel
theorem d_X1_remember_34 : decode cX1_remember 34 = .ok (.aload_n 0, 1) := by decide +kernel
theorem d_X1_remember_35 : decode cX1_remember 35 = .ok (.getfield 59, 3) := by decide +kernel
theorem d_X1_remember_38 : decode cX1_remember 38 = .ok (.invokestatic 82, 3) := by decide +kernel
theorem d_X1_remember_41 : decode cX1_remember 41 = .ok (.aload_n 0, 1) := by decide +kernel
theorem d_X1_remember_42 : decode cX1_remember 42 = .ok (.aload_n 0, 1) := by decide +kernel
theorem d_X1_remember_43 : decode cX1_remember 43 = .ok (.getfield 59, 3) := by decide +kernel
theorem d_X1_remember_46 : decode cX1_remember 46 = .ok (.putfield 88, 3) := by decide +kernel
theorem d_X1_remember_49 : decode cX1_remember 49 = .ok (.return_, 1) := by decide +kernel
theorem d_X1_remember_50 : decode cX1_remember 50 = .ok (.aload_n 0, 1) := by decide +kernel
theorem d_X1_remember_51 : decode cX1_remember 51 = .ok (.iconst 0, 1) := by decide +kernel
theorem d_X1_remember_52 : decode cX1_remember 52 = .ok (.putfield 91, 3) := by decide +kernel
theorem d_X1_remember_55 : decode cX1_remember 55 = .ok (.iconst 0, 1) := by decide +kernel
theorem d_X1_remember_56 : decode cX1_remember 56 = .ok (.istore_n 1, 1) := by decide +kernel
theorem d_X1_remember_57 : decode cX1_remember 57 = .ok (.iload_n 1, 1) := by decide +kernel
theorem d_X1_remember_58 : decode cX1_remember 58 = .ok (.aload_n 0, 1) := by decide +kernel
theorem d_X1_remember_59 : decode cX1_remember 59 = .ok (.getfield 33, 3) := by decide +kernel
theorem d_X1_remember_62 : decode cX1_remember 62 = .ok (.getfield 49, 3) := by decide +kernel
theorem d_X1_remember_65 : decode cX1_remember 65 = .ok (.if_icmp .ge 37, 3) := by decide +kernel
theorem d_X1_remember_68 : decode cX1_remember 68 = .ok (.aload_n 0, 1) := by decide +kernel
theorem d_X1_remember_69 : decode cX1_remember 69 = .ok (.getfield 62, 3) := by decide +kernel
theorem d_X1_remember_72 : decode cX1_remember 72 = .ok (.iload_n 1, 1) := by decide +kernel
theorem d_X1_remember_73 : decode cX1_remember 73 = .ok (.ishr, 1) := by decide +kernel
theorem d_X1_remember_74 : decode cX1_remember 74 = .ok (.iconst 1, 1) := by decide +kernel
theorem d_X1_remember_75 : decode cX1_remember 75 = .ok (.iand, 1) := by decide +kernel
theorem d_X1_remember_76 : decode cX1_remember 76 = .ok (.ifCond .eq 20, 3) := by decide +kernel
theorem d_X1_remember_79 : decode cX1_remember 79 = .ok (.aload_n 0, 1) := by decide +kernel
theorem d_X1_remember_80 : decode cX1_remember 80 = .ok (.dup, 1) := by decide +kernel
theorem d_X1_remember_81 : decode cX1_remember 81 = .ok (.getfield 91, 3) := by decide +kernel
theorem d_X1_remember_84 : decode cX1_remember 84 = .ok (.aload_n 0, 1) := by decide +kernel
theorem d_X1_remember_85 : decode cX1_remember 85 = .ok (.getfield 33, 3) := by decide +kernel
theorem d_X1_remember_88 : decode cX1_remember 88 = .ok (.iload_n 1, 1) := by decide +kernel
theorem d_X1_remember_89 : decode cX1_remember 89 = .ok (.invokevirtual 94, 3) := by decide +kernel
theorem d_X1_remember_92 : decode cX1_remember 92 = .ok (.ior, 1) := by decide +kernel
theorem d_X1_remember_93 : decode cX1_remember 93 = .ok (.putfield 91, 3) := by decide +kernel
theorem d_X1_remember_96 : decode cX1_remember 96 = .ok (.iinc 1 1, 3) := by decide +kernel
theorem d_X1_remember_99 : decode cX1_remember 99 = .ok (.goto (-42), 3) := by decide +kernel
theorem d_X1_remember_102 : decode cX1_remember 102 = .ok (.return_, 1) := by decide +kernel
theorem d_X1_carryOut_0 : decode cX1_carryOut 0 = .ok (.iconst 0, 1) := by decide +kernel
theorem d_X1_carryOut_1 : decode cX1_carryOut 1 = .ok (.istore_n 1, 1) := by decide +kernel
theorem d_X1_carryOut_2 : decode cX1_carryOut 2 = .ok (.iload_n 1, 1) := by decide +kernel
theorem d_X1_carryOut_3 : decode cX1_carryOut 3 = .ok (.aload_n 0, 1) := by decide +kernel
theorem d_X1_carryOut_4 : decode cX1_carryOut 4 = .ok (.getfield 59, 3) := by decide +kernel
theorem d_X1_carryOut_7 : decode cX1_carryOut 7 = .ok (.if_icmp .ge 29, 3) := by decide +kernel
theorem d_X1_carryOut_10 : decode cX1_carryOut 10 = .ok (.aload_n 0, 1) := by decide +kernel
theorem d_X1_carryOut_11 : decode cX1_carryOut 11 = .ok (.getfield 33, 3) := by decide +kernel
theorem d_X1_carryOut_14 : decode cX1_carryOut 14 = .ok (.getfield 52, 3) := by decide +kernel
theorem d_X1_carryOut_17 : decode cX1_carryOut 17 = .ok (.aload_n 0, 1) := by decide +kernel
theorem d_X1_carryOut_18 : decode cX1_carryOut 18 = .ok (.getfield 21, 3) := by decide +kernel
theorem d_X1_carryOut_21 : decode cX1_carryOut 21 = .ok (.iload_n 1, 1) := by decide +kernel
theorem d_X1_carryOut_22 : decode cX1_carryOut 22 = .ok (.iaload, 1) := by decide +kernel
theorem d_X1_carryOut_23 : decode cX1_carryOut 23 = .ok (.aload_n 0, 1) := by decide +kernel
theorem d_X1_carryOut_24 : decode cX1_carryOut 24 = .ok (.getfield 24, 3) := by decide +kernel
theorem d_X1_carryOut_27 : decode cX1_carryOut 27 = .ok (.iload_n 1, 1) := by decide +kernel
theorem d_X1_carryOut_28 : decode cX1_carryOut 28 = .ok (.iaload, 1) := by decide +kernel
theorem d_X1_carryOut_29 : decode cX1_carryOut 29 = .ok (.iastore, 1) := by decide +kernel
theorem d_X1_carryOut_30 : decode cX1_carryOut 30 = .ok (.iinc 1 1, 3) := by decide +kernel
theorem d_X1_carryOut_33 : decode cX1_carryOut 33 = .ok (.goto (-31), 3) := by decide +kernel
theorem d_X1_carryOut_36 : decode cX1_carryOut 36 = .ok (.return_, 1) := by decide +kernel
theorem d_X11_place_0 : decode cX11_place 0 = .ok (.aload_n 0, 1) := by decide +kernel
theorem d_X11_place_1 : decode cX11_place 1 = .ok (.iload_n 1, 1) := by decide +kernel
theorem d_X11_place_2 : decode cX11_place 2 = .ok (.invokevirtual 207, 3) := by decide +kernel
theorem d_X11_place_5 : decode cX11_place 5 = .ok (.ifCond .ne 5, 3) := by decide +kernel
theorem d_X11_place_8 : decode cX11_place 8 = .ok (.iconst (-1), 1) := by decide +kernel
theorem d_X11_place_9 : decode cX11_place 9 = .ok (.ireturn, 1) := by decide +kernel
theorem d_X11_place_10 : decode cX11_place 10 = .ok (.aload_n 0, 1) := by decide +kernel
theorem d_X11_place_11 : decode cX11_place 11 = .ok (.getfield 44, 3) := by decide +kernel
theorem d_X11_place_14 : decode cX11_place 14 = .ok (.iload_n 1, 1) := by decide +kernel
theorem d_X11_place_15 : decode cX11_place 15 = .ok (.invokevirtual 210, 3) := by decide +kernel
theorem d_X11_place_18 : decode cX11_place 18 = .ok (.istore_n 2, 1) := by decide +kernel
theorem d_X11_place_19 : decode cX11_place 19 = .ok (.aload_n 0, 1) := by decide +kernel
theorem d_X11_place_20 : decode cX11_place 20 = .ok (.getfield 44, 3) := by decide +kernel
theorem d_X11_place_23 : decode cX11_place 23 = .ok (.invokevirtual 213, 3) := by decide +kernel
theorem d_X11_place_26 : decode cX11_place 26 = .ok (.iload_n 2, 1) := by decide +kernel
theorem d_X11_place_27 : decode cX11_place 27 = .ok (.ifCond .le 24, 3) := by decide +kernel
theorem d_X11_place_30 : decode cX11_place 30 = .ok (.aload_n 0, 1) := by decide +kernel
theorem d_X11_place_31 : decode cX11_place 31 = .ok (.getfield 37, 3) := by decide +kernel
theorem d_X11_place_34 : decode cX11_place 34 = .ok (.invokevirtual 133, 3) := by decide +kernel
theorem d_X11_place_37 : decode cX11_place 37 = .ok (.aload_n 0, 1) := by decide +kernel
theorem d_X11_place_38 : decode cX11_place 38 = .ok (.getfield 44, 3) := by decide +kernel
theorem d_X11_place_41 : decode cX11_place 41 = .ok (.invokevirtual 216, 3) := by decide +kernel
theorem d_X11_place_44 : decode cX11_place 44 = .ok (.aload_n 0, 1) := by decide +kernel
theorem d_X11_place_45 : decode cX11_place 45 = .ok (.getfield 37, 3) := by decide +kernel
theorem d_X11_place_48 : decode cX11_place 48 = .ok (.invokevirtual 143, 3) := by decide +kernel
theorem d_X11_place_51 : decode cX11_place 51 = .ok (.iload_n 2, 1) := by decide +kernel
theorem d_X11_place_52 : decode cX11_place 52 = .ok (.ireturn, 1) := by decide +kernel
theorem d_X11_chain_0 : decode cX11_chain 0 = .ok (.aload_n 0, 1) := by decide +kernel
theorem d_X11_chain_1 : decode cX11_chain 1 = .ok (.iload_n 1, 1) := by decide +kernel
theorem d_X11_chain_2 : decode cX11_chain 2 = .ok (.invokevirtual 207, 3) := by decide +kernel
theorem d_X11_chain_5 : decode cX11_chain 5 = .ok (.ifCond .ne 5, 3) := by decide +kernel
theorem d_X11_chain_8 : decode cX11_chain 8 = .ok (.iconst (-1), 1) := by decide +kernel
theorem d_X11_chain_9 : decode cX11_chain 9 = .ok (.ireturn, 1) := by decide +kernel
theorem d_X11_chain_10 : decode cX11_chain 10 = .ok (.aload_n 0, 1) := by decide +kernel
theorem d_X11_chain_11 : decode cX11_chain 11 = .ok (.getfield 44, 3) := by decide +kernel
theorem d_X11_chain_14 : decode cX11_chain 14 = .ok (.iload_n 1, 1) := by decide +kernel
theorem d_X11_chain_15 : decode cX11_chain 15 = .ok (.invokevirtual 210, 3) := by decide +kernel
theorem d_X11_chain_18 : decode cX11_chain 18 = .ok (.istore_n 2, 1) := by decide +kernel
theorem d_X11_chain_19 : decode cX11_chain 19 = .ok (.aload_n 0, 1) := by decide +kernel
theorem d_X11_chain_20 : decode cX11_chain 20 = .ok (.getfield 44, 3) := by decide +kernel
theorem d_X11_chain_23 : decode cX11_chain 23 = .ok (.invokevirtual 213, 3) := by decide +kernel
theorem d_X11_chain_26 : decode cX11_chain 26 = .ok (.iload_n 2, 1) := by decide +kernel
theorem d_X11_chain_27 : decode cX11_chain 27 = .ok (.ireturn, 1) := by decide +kernel
theorem d_X1_toldAt_0 : decode cX1_toldAt 0 = .ok (.iload_n 1, 1) := by decide +kernel
theorem d_X1_toldAt_1 : decode cX1_toldAt 1 = .ok (.ifCond .lt 20, 3) := by decide +kernel
theorem d_X1_toldAt_4 : decode cX1_toldAt 4 = .ok (.iload_n 1, 1) := by decide +kernel
theorem d_X1_toldAt_5 : decode cX1_toldAt 5 = .ok (.aload_n 0, 1) := by decide +kernel
theorem d_X1_toldAt_6 : decode cX1_toldAt 6 = .ok (.getfield 88, 3) := by decide +kernel
theorem d_X1_toldAt_9 : decode cX1_toldAt 9 = .ok (.if_icmp .ge 12, 3) := by decide +kernel
theorem d_X1_toldAt_12 : decode cX1_toldAt 12 = .ok (.iload_n 2, 1) := by decide +kernel
theorem d_X1_toldAt_13 : decode cX1_toldAt 13 = .ok (.ifCond .lt 8, 3) := by decide +kernel
theorem d_X1_toldAt_16 : decode cX1_toldAt 16 = .ok (.iload_n 2, 1) := by decide +kernel
theorem d_X1_toldAt_17 : decode cX1_toldAt 17 = .ok (.iconst 1, 1) := by decide +kernel
theorem d_X1_toldAt_18 : decode cX1_toldAt 18 = .ok (.if_icmp .le 5, 3) := by decide +kernel
theorem d_X1_toldAt_21 : decode cX1_toldAt 21 = .ok (.iconst (-1), 1) := by decide +kernel
theorem d_X1_toldAt_22 : decode cX1_toldAt 22 = .ok (.ireturn, 1) := by decide +kernel
theorem d_X1_toldAt_23 : decode cX1_toldAt 23 = .ok (.iload_n 2, 1) := by decide +kernel
theorem d_X1_toldAt_24 : decode cX1_toldAt 24 = .ok (.ifCond .ne 12, 3) := by decide +kernel
theorem d_X1_toldAt_27 : decode cX1_toldAt 27 = .ok (.aload_n 0, 1) := by decide +kernel
theorem d_X1_toldAt_28 : decode cX1_toldAt 28 = .ok (.getfield 27, 3) := by decide +kernel
theorem d_X1_toldAt_31 : decode cX1_toldAt 31 = .ok (.iload_n 1, 1) := by decide +kernel
theorem d_X1_toldAt_32 : decode cX1_toldAt 32 = .ok (.iaload, 1) := by decide +kernel
theorem d_X1_toldAt_33 : decode cX1_toldAt 33 = .ok (.goto 9, 3) := by decide +kernel
theorem d_X1_toldAt_36 : decode cX1_toldAt 36 = .ok (.aload_n 0, 1) := by decide +kernel
theorem d_X1_toldAt_37 : decode cX1_toldAt 37 = .ok (.getfield 30, 3) := by decide +kernel
theorem d_X1_toldAt_40 : decode cX1_toldAt 40 = .ok (.iload_n 1, 1) := by decide +kernel
theorem d_X1_toldAt_41 : decode cX1_toldAt 41 = .ok (.iaload, 1) := by decide +kernel
theorem d_X1_toldAt_42 : decode cX1_toldAt 42 = .ok (.ireturn, 1) := by decide +kernel
theorem d_X11_chainAt_0 : decode cX11_chainAt 0 = .ok (.aload_n 0, 1) := by decide +kernel
theorem d_X11_chainAt_1 : decode cX11_chainAt 1 = .ok (.getfield 44, 3) := by decide +kernel
theorem d_X11_chainAt_4 : decode cX11_chainAt 4 = .ok (.iload_n 1, 1) := by decide +kernel
theorem d_X11_chainAt_5 : decode cX11_chainAt 5 = .ok (.iload_n 2, 1) := by decide +kernel
theorem d_X11_chainAt_6 : decode cX11_chainAt 6 = .ok (.invokevirtual 219, 3) := by decide +kernel
theorem d_X11_chainAt_9 : decode cX11_chainAt 9 = .ok (.ireturn, 1) := by decide +kernel
theorem d_X1_toldCrowd_0 : decode cX1_toldCrowd 0 = .ok (.aload_n 0, 1) := by decide +kernel
theorem d_X1_toldCrowd_1 : decode cX1_toldCrowd 1 = .ok (.getfield 91, 3) := by decide +kernel
theorem d_X1_toldCrowd_4 : decode cX1_toldCrowd 4 = .ok (.ireturn, 1) := by decide +kernel
theorem d_X11_crowd_0 : decode cX11_crowd 0 = .ok (.aload_n 0, 1) := by decide +kernel
theorem d_X11_crowd_1 : decode cX11_crowd 1 = .ok (.getfield 44, 3) := by decide +kernel
theorem d_X11_crowd_4 : decode cX11_crowd 4 = .ok (.invokevirtual 222, 3) := by decide +kernel
theorem d_X11_crowd_7 : decode cX11_crowd 7 = .ok (.ireturn, 1) := by decide +kernel
theorem d_X11_pack_0 : decode cX11_pack 0 = .ok (.aload_n 0, 1) := by decide +kernel
theorem d_X11_pack_1 : decode cX11_pack 1 = .ok (.getfield 37, 3) := by decide +kernel
theorem d_X11_pack_4 : decode cX11_pack 4 = .ok (.invokevirtual 133, 3) := by decide +kernel
theorem d_X11_pack_7 : decode cX11_pack 7 = .ok (.iconst 0, 1) := by decide +kernel
theorem d_X11_pack_8 : decode cX11_pack 8 = .ok (.istore_n 1, 1) := by decide +kernel
theorem d_X11_pack_9 : decode cX11_pack 9 = .ok (.iconst 0, 1) := by decide +kernel
theorem d_X11_pack_10 : decode cX11_pack 10 = .ok (.istore_n 2, 1) := by decide +kernel
theorem d_X11_pack_11 : decode cX11_pack 11 = .ok (.iload_n 2, 1) := by decide +kernel
theorem d_X11_pack_12 : decode cX11_pack 12 = .ok (.aload_n 0, 1) := by decide +kernel
theorem d_X11_pack_13 : decode cX11_pack 13 = .ok (.getfield 10, 3) := by decide +kernel
theorem d_X11_pack_16 : decode cX11_pack 16 = .ok (.getfield 136, 3) := by decide +kernel
theorem d_X11_pack_19 : decode cX11_pack 19 = .ok (.if_icmp .ge 38, 3) := by decide +kernel
theorem d_X11_pack_22 : decode cX11_pack 22 = .ok (.aload_n 0, 1) := by decide +kernel
theorem d_X11_pack_23 : decode cX11_pack 23 = .ok (.iload_n 2, 1) := by decide +kernel
theorem d_X11_pack_24 : decode cX11_pack 24 = .ok (.invokevirtual 207, 3) := by decide +kernel
theorem d_X11_pack_27 : decode cX11_pack 27 = .ok (.ifCond .eq 24, 3) := by decide +kernel
theorem d_X11_pack_30 : decode cX11_pack 30 = .ok (.aload_n 0, 1) := by decide +kernel
theorem d_X11_pack_31 : decode cX11_pack 31 = .ok (.getfield 44, 3) := by decide +kernel
theorem d_X11_pack_34 : decode cX11_pack 34 = .ok (.iload_n 2, 1) := by decide +kernel
theorem d_X11_pack_35 : decode cX11_pack 35 = .ok (.invokevirtual 210, 3) := by decide +kernel
theorem d_X11_pack_38 : decode cX11_pack 38 = .ok (.ifCond .le 13, 3) := by decide +kernel
theorem d_X11_pack_41 : decode cX11_pack 41 = .ok (.aload_n 0, 1) := by decide +kernel
theorem d_X11_pack_42 : decode cX11_pack 42 = .ok (.getfield 44, 3) := by decide +kernel
theorem d_X11_pack_45 : decode cX11_pack 45 = .ok (.invokevirtual 216, 3) := by decide +kernel
theorem d_X11_pack_48 : decode cX11_pack 48 = .ok (.iinc 1 1, 3) := by decide +kernel
theorem d_X11_pack_51 : decode cX11_pack 51 = .ok (.iinc 2 1, 3) := by decide +kernel
theorem d_X11_pack_54 : decode cX11_pack 54 = .ok (.goto (-43), 3) := by decide +kernel
theorem d_X11_pack_57 : decode cX11_pack 57 = .ok (.iload_n 1, 1) := by decide +kernel
theorem d_X11_pack_58 : decode cX11_pack 58 = .ok (.ifCond .le 10, 3) := by decide +kernel
theorem d_X11_pack_61 : decode cX11_pack 61 = .ok (.aload_n 0, 1) := by decide +kernel
theorem d_X11_pack_62 : decode cX11_pack 62 = .ok (.getfield 37, 3) := by decide +kernel
theorem d_X11_pack_65 : decode cX11_pack 65 = .ok (.invokevirtual 143, 3) := by decide +kernel
theorem d_X11_pack_68 : decode cX11_pack 68 = .ok (.iload_n 1, 1) := by decide +kernel
theorem d_X11_pack_69 : decode cX11_pack 69 = .ok (.ireturn, 1) := by decide +kernel
theorem d_X5_breakLine_0 : decode cX5_breakLine 0 = .ok (.aload_n 0, 1) := by decide +kernel
theorem d_X5_breakLine_1 : decode cX5_breakLine 1 = .ok (.getfield 21, 3) := by decide +kernel
theorem d_X5_breakLine_4 : decode cX5_breakLine 4 = .ok (.iload_n 1, 1) := by decide +kernel
theorem d_X5_breakLine_5 : decode cX5_breakLine 5 = .ok (.iconst (-1), 1) := by decide +kernel
theorem d_X5_breakLine_6 : decode cX5_breakLine 6 = .ok (.iastore, 1) := by decide +kernel
theorem d_X5_breakLine_7 : decode cX5_breakLine 7 = .ok (.aload_n 0, 1) := by decide +kernel
theorem d_X5_breakLine_8 : decode cX5_breakLine 8 = .ok (.dup, 1) := by decide +kernel
theorem d_X5_breakLine_9 : decode cX5_breakLine 9 = .ok (.getfield 40, 3) := by decide +kernel
theorem d_X5_breakLine_12 : decode cX5_breakLine 12 = .ok (.iconst 1, 1) := by decide +kernel
theorem d_X5_breakLine_13 : decode cX5_breakLine 13 = .ok (.iload_n 1, 1) := by decide +kernel
theorem d_X5_breakLine_14 : decode cX5_breakLine 14 = .ok (.ishl, 1) := by decide +kernel
theorem d_X5_breakLine_15 : decode cX5_breakLine 15 = .ok (.ior, 1) := by decide +kernel
theorem d_X5_breakLine_16 : decode cX5_breakLine 16 = .ok (.putfield 40, 3) := by decide +kernel
theorem d_X5_breakLine_19 : decode cX5_breakLine 19 = .ok (.return_, 1) := by decide +kernel
theorem d_X11_breaks_0 : decode cX11_breaks 0 = .ok (.aload_n 0, 1) := by decide +kernel
theorem d_X11_breaks_1 : decode cX11_breaks 1 = .ok (.getfield 10, 3) := by decide +kernel
theorem d_X11_breaks_4 : decode cX11_breaks 4 = .ok (.iload_n 1, 1) := by decide +kernel
theorem d_X11_breaks_5 : decode cX11_breaks 5 = .ok (.invokevirtual 146, 3) := by decide +kernel
theorem d_X11_breaks_8 : decode cX11_breaks 8 = .ok (.ifCond .ne 5, 3) := by decide +kernel
theorem d_X11_breaks_11 : decode cX11_breaks 11 = .ok (.iconst (-1), 1) := by decide +kernel
theorem d_X11_breaks_12 : decode cX11_breaks 12 = .ok (.ireturn, 1) := by decide +kernel
theorem d_X11_breaks_13 : decode cX11_breaks 13 = .ok (.aload_n 0, 1) := by decide +kernel
theorem d_X11_breaks_14 : decode cX11_breaks 14 = .ok (.getfield 10, 3) := by decide +kernel
theorem d_X11_breaks_17 : decode cX11_breaks 17 = .ok (.iload_n 1, 1) := by decide +kernel
theorem d_X11_breaks_18 : decode cX11_breaks 18 = .ok (.invokevirtual 166, 3) := by decide +kernel
theorem d_X11_breaks_21 : decode cX11_breaks 21 = .ok (.ifCond .ne 5, 3) := by decide +kernel
theorem d_X11_breaks_24 : decode cX11_breaks 24 = .ok (.iconst 1, 1) := by decide +kernel
theorem d_X11_breaks_25 : decode cX11_breaks 25 = .ok (.ireturn, 1) := by decide +kernel
theorem d_X11_breaks_26 : decode cX11_breaks 26 = .ok (.aload_n 0, 1) := by decide +kernel
theorem d_X11_breaks_27 : decode cX11_breaks 27 = .ok (.getfield 37, 3) := by decide +kernel
theorem d_X11_breaks_30 : decode cX11_breaks 30 = .ok (.invokevirtual 133, 3) := by decide +kernel
theorem d_X11_breaks_33 : decode cX11_breaks 33 = .ok (.aload_n 0, 1) := by decide +kernel
theorem d_X11_breaks_34 : decode cX11_breaks 34 = .ok (.getfield 10, 3) := by decide +kernel
theorem d_X11_breaks_37 : decode cX11_breaks 37 = .ok (.iload_n 1, 1) := by decide +kernel
theorem d_X11_breaks_38 : decode cX11_breaks 38 = .ok (.invokevirtual 232, 3) := by decide +kernel
theorem d_X11_breaks_41 : decode cX11_breaks 41 = .ok (.aload_n 0, 1) := by decide +kernel
theorem d_X11_breaks_42 : decode cX11_breaks 42 = .ok (.getfield 37, 3) := by decide +kernel
theorem d_X11_breaks_45 : decode cX11_breaks 45 = .ok (.invokevirtual 143, 3) := by decide +kernel
theorem d_X11_breaks_48 : decode cX11_breaks 48 = .ok (.iconst 0, 1) := by decide +kernel
theorem d_X11_breaks_49 : decode cX11_breaks 49 = .ok (.ireturn, 1) := by decide +kernel
theorem d_X5_mendLine_0 : decode cX5_mendLine 0 = .ok (.aload_n 0, 1) := by decide +kernel
theorem d_X5_mendLine_1 : decode cX5_mendLine 1 = .ok (.dup, 1) := by decide +kernel
theorem d_X5_mendLine_2 : decode cX5_mendLine 2 = .ok (.getfield 40, 3) := by decide +kernel
theorem d_X5_mendLine_5 : decode cX5_mendLine 5 = .ok (.iconst 1, 1) := by decide +kernel
theorem d_X5_mendLine_6 : decode cX5_mendLine 6 = .ok (.iload_n 1, 1) := by decide +kernel
theorem d_X5_mendLine_7 : decode cX5_mendLine 7 = .ok (.ishl, 1) := by decide +kernel
theorem d_X5_mendLine_8 : decode cX5_mendLine 8 = .ok (.iconst (-1), 1) := by decide +kernel
theorem d_X5_mendLine_9 : decode cX5_mendLine 9 = .ok (.ixor, 1) := by decide +kernel
theorem d_X5_mendLine_10 : decode cX5_mendLine 10 = .ok (.iand, 1) := by decide +kernel
theorem d_X5_mendLine_11 : decode cX5_mendLine 11 = .ok (.putfield 40, 3) := by decide +kernel
theorem d_X5_mendLine_14 : decode cX5_mendLine 14 = .ok (.return_, 1) := by decide +kernel
theorem d_X11_mend_0 : decode cX11_mend 0 = .ok (.aload_n 0, 1) := by decide +kernel
theorem d_X11_mend_1 : decode cX11_mend 1 = .ok (.getfield 10, 3) := by decide +kernel
theorem d_X11_mend_4 : decode cX11_mend 4 = .ok (.iload_n 1, 1) := by decide +kernel
theorem d_X11_mend_5 : decode cX11_mend 5 = .ok (.invokevirtual 146, 3) := by decide +kernel
theorem d_X11_mend_8 : decode cX11_mend 8 = .ok (.ifCond .ne 5, 3) := by decide +kernel
theorem d_X11_mend_11 : decode cX11_mend 11 = .ok (.iconst (-1), 1) := by decide +kernel
theorem d_X11_mend_12 : decode cX11_mend 12 = .ok (.ireturn, 1) := by decide +kernel
theorem d_X11_mend_13 : decode cX11_mend 13 = .ok (.aload_n 0, 1) := by decide +kernel
theorem d_X11_mend_14 : decode cX11_mend 14 = .ok (.getfield 10, 3) := by decide +kernel
theorem d_X11_mend_17 : decode cX11_mend 17 = .ok (.iload_n 1, 1) := by decide +kernel
theorem d_X11_mend_18 : decode cX11_mend 18 = .ok (.invokevirtual 166, 3) := by decide +kernel
theorem d_X11_mend_21 : decode cX11_mend 21 = .ok (.ifCond .eq 5, 3) := by decide +kernel
theorem d_X11_mend_24 : decode cX11_mend 24 = .ok (.iconst 1, 1) := by decide +kernel
theorem d_X11_mend_25 : decode cX11_mend 25 = .ok (.ireturn, 1) := by decide +kernel
theorem d_X11_mend_26 : decode cX11_mend 26 = .ok (.aload_n 0, 1) := by decide +kernel
theorem d_X11_mend_27 : decode cX11_mend 27 = .ok (.getfield 37, 3) := by decide +kernel
theorem d_X11_mend_30 : decode cX11_mend 30 = .ok (.invokevirtual 133, 3) := by decide +kernel
theorem d_X11_mend_33 : decode cX11_mend 33 = .ok (.aload_n 0, 1) := by decide +kernel
theorem d_X11_mend_34 : decode cX11_mend 34 = .ok (.getfield 10, 3) := by decide +kernel
theorem d_X11_mend_37 : decode cX11_mend 37 = .ok (.iload_n 1, 1) := by decide +kernel
theorem d_X11_mend_38 : decode cX11_mend 38 = .ok (.invokevirtual 235, 3) := by decide +kernel
theorem d_X11_mend_41 : decode cX11_mend 41 = .ok (.aload_n 0, 1) := by decide +kernel
theorem d_X11_mend_42 : decode cX11_mend 42 = .ok (.getfield 37, 3) := by decide +kernel
theorem d_X11_mend_45 : decode cX11_mend 45 = .ok (.invokevirtual 143, 3) := by decide +kernel
theorem d_X11_mend_48 : decode cX11_mend 48 = .ok (.iconst 0, 1) := by decide +kernel
theorem d_X11_mend_49 : decode cX11_mend 49 = .ok (.ireturn, 1) := by decide +kernel
theorem d_X5_allPoints_0 : decode cX5_allPoints 0 = .ok (.iconst 1, 1) := by decide +kernel
theorem d_X5_allPoints_1 : decode cX5_allPoints 1 = .ok (.aload_n 0, 1) := by decide +kernel
theorem d_X5_allPoints_2 : decode cX5_allPoints 2 = .ok (.getfield 34, 3) := by decide +kernel
theorem d_X5_allPoints_5 : decode cX5_allPoints 5 = .ok (.ishl, 1) := by decide +kernel
theorem d_X5_allPoints_6 : decode cX5_allPoints 6 = .ok (.iconst 1, 1) := by decide +kernel
theorem d_X5_allPoints_7 : decode cX5_allPoints 7 = .ok (.isub, 1) := by decide +kernel
theorem d_X5_allPoints_8 : decode cX5_allPoints 8 = .ok (.ireturn, 1) := by decide +kernel
theorem d_X8_takeNone_0 : decode cX8_takeNone 0 = .ok (.iconst 0, 1) := by decide +kernel
theorem d_X8_takeNone_1 : decode cX8_takeNone 1 = .ok (.istore_n 1, 1) := by decide +kernel
theorem d_X8_takeNone_2 : decode cX8_takeNone 2 = .ok (.iload_n 1, 1) := by decide +kernel
theorem d_X8_takeNone_3 : decode cX8_takeNone 3 = .ok (.aload_n 0, 1) := by decide +kernel
theorem d_X8_takeNone_4 : decode cX8_takeNone 4 = .ok (.getfield 21, 3) := by decide +kernel
theorem d_X8_takeNone_7 : decode cX8_takeNone 7 = .ok (.invokevirtual 57, 3) := by decide +kernel
theorem d_X8_takeNone_10 : decode cX8_takeNone 10 = .ok (.if_icmp .gt 16, 3) := by decide +kernel
theorem d_X8_takeNone_13 : decode cX8_takeNone 13 = .ok (.aload_n 0, 1) := by decide +kernel
theorem d_X8_takeNone_14 : decode cX8_takeNone 14 = .ok (.getfield 15, 3) := by decide +kernel
theorem d_X8_takeNone_17 : decode cX8_takeNone 17 = .ok (.iload_n 1, 1) := by decide +kernel
theorem d_X8_takeNone_18 : decode cX8_takeNone 18 = .ok (.iconst 0, 1) := by decide +kernel
theorem d_X8_takeNone_19 : decode cX8_takeNone 19 = .ok (.iastore, 1) := by decide +kernel
theorem d_X8_takeNone_20 : decode cX8_takeNone 20 = .ok (.iinc 1 1, 3) := by decide +kernel
theorem d_X8_takeNone_23 : decode cX8_takeNone 23 = .ok (.goto (-21), 3) := by decide +kernel
theorem d_X8_takeNone_26 : decode cX8_takeNone 26 = .ok (.return_, 1) := by decide +kernel
theorem d_X8_isFull_0 : decode cX8_isFull 0 = .ok (.aload_n 0, 1) := by decide +kernel
theorem d_X8_isFull_1 : decode cX8_isFull 1 = .ok (.getfield 15, 3) := by decide +kernel
theorem d_X8_isFull_4 : decode cX8_isFull 4 = .ok (.iload_n 1, 1) := by decide +kernel
theorem d_X8_isFull_5 : decode cX8_isFull 5 = .ok (.iaload, 1) := by decide +kernel
theorem d_X8_isFull_6 : decode cX8_isFull 6 = .ok (.iload_n 2, 1) := by decide +kernel
theorem d_X8_isFull_7 : decode cX8_isFull 7 = .ok (.iload_n 1, 1) := by decide +kernel
theorem d_X8_isFull_8 : decode cX8_isFull 8 = .ok (.invokestatic 65, 3) := by decide +kernel
theorem d_X8_isFull_11 : decode cX8_isFull 11 = .ok (.iconst 1, 1) := by decide +kernel
theorem d_X8_isFull_12 : decode cX8_isFull 12 = .ok (.isub, 1) := by decide +kernel
theorem d_X8_isFull_13 : decode cX8_isFull 13 = .ok (.imul, 1) := by decide +kernel
theorem d_X8_isFull_14 : decode cX8_isFull 14 = .ok (.if_icmp .lt 7, 3) := by decide +kernel
theorem d_X8_isFull_17 : decode cX8_isFull 17 = .ok (.iconst 1, 1) := by decide +kernel
theorem d_X8_isFull_18 : decode cX8_isFull 18 = .ok (.goto 4, 3) := by decide +kernel
theorem d_X8_isFull_21 : decode cX8_isFull 21 = .ok (.iconst 0, 1) := by decide +kernel
theorem d_X8_isFull_22 : decode cX8_isFull 22 = .ok (.ireturn, 1) := by decide +kernel
theorem d_X8_take_0 : decode cX8_take 0 = .ok (.aload_n 0, 1) := by decide +kernel
theorem d_X8_take_1 : decode cX8_take 1 = .ok (.getfield 21, 3) := by decide +kernel
theorem d_X8_take_4 : decode cX8_take 4 = .ok (.iload_n 1, 1) := by decide +kernel
theorem d_X8_take_5 : decode cX8_take 5 = .ok (.invokevirtual 85, 3) := by decide +kernel
theorem d_X8_take_8 : decode cX8_take 8 = .ok (.istore_n 3, 1) := by decide +kernel
theorem d_X8_take_9 : decode cX8_take 9 = .ok (.iconst 1, 1) := by decide +kernel
theorem d_X8_take_10 : decode cX8_take 10 = .ok (.aload_n 0, 1) := by decide +kernel
theorem d_X8_take_11 : decode cX8_take 11 = .ok (.getfield 21, 3) := by decide +kernel
theorem d_X8_take_14 : decode cX8_take 14 = .ok (.getfield 39, 3) := by decide +kernel
theorem d_X8_take_17 : decode cX8_take 17 = .ok (.ishl, 1) := by decide +kernel
theorem d_X8_take_18 : decode cX8_take 18 = .ok (.istore 4, 2) := by decide +kernel
theorem d_X8_take_20 : decode cX8_take 20 = .ok (.iload_n 3, 1) := by decide +kernel
theorem d_X8_take_21 : decode cX8_take 21 = .ok (.istore 5, 2) := by decide +kernel
theorem d_X8_take_23 : decode cX8_take 23 = .ok (.iload 5, 2) := by decide +kernel
theorem d_X8_take_25 : decode cX8_take 25 = .ok (.iload 4, 2) := by decide +kernel
theorem d_X8_take_27 : decode cX8_take 27 = .ok (.if_icmp .ge 26, 3) := by decide +kernel
theorem d_X8_take_30 : decode cX8_take 30 = .ok (.aload_n 0, 1) := by decide +kernel
theorem d_X8_take_31 : decode cX8_take 31 = .ok (.iload 5, 2) := by decide +kernel
theorem d_X8_take_33 : decode cX8_take 33 = .ok (.iload_n 2, 1) := by decide +kernel
theorem d_X8_take_34 : decode cX8_take 34 = .ok (.invokevirtual 88, 3) := by decide +kernel
theorem d_X8_take_37 : decode cX8_take 37 = .ok (.ifCond .eq 5, 3) := by decide +kernel
theorem d_X8_take_40 : decode cX8_take 40 = .ok (.iconst 0, 1) := by decide +kernel
theorem d_X8_take_41 : decode cX8_take 41 = .ok (.ireturn, 1) := by decide +kernel
theorem d_X8_take_42 : decode cX8_take 42 = .ok (.iload 5, 2) := by decide +kernel
theorem d_X8_take_44 : decode cX8_take 44 = .ok (.iconst 1, 1) := by decide +kernel
theorem d_X8_take_45 : decode cX8_take 45 = .ok (.iadd, 1) := by decide +kernel
theorem d_X8_take_46 : decode cX8_take 46 = .ok (.iload_n 3, 1) := by decide +kernel
theorem d_X8_take_47 : decode cX8_take 47 = .ok (.ior, 1) := by decide +kernel
theorem d_X8_take_48 : decode cX8_take 48 = .ok (.istore 5, 2) := by decide +kernel
theorem d_X8_take_50 : decode cX8_take 50 = .ok (.goto (-27), 3) := by decide +kernel
theorem d_X8_take_53 : decode cX8_take 53 = .ok (.iload_n 3, 1) := by decide +kernel
theorem d_X8_take_54 : decode cX8_take 54 = .ok (.istore 5, 2) := by decide +kernel
theorem d_X8_take_56 : decode cX8_take 56 = .ok (.iload 5, 2) := by decide +kernel
theorem d_X8_take_58 : decode cX8_take 58 = .ok (.iload 4, 2) := by decide +kernel
theorem d_X8_take_60 : decode cX8_take 60 = .ok (.if_icmp .ge 25, 3) := by decide +kernel
theorem d_X8_take_63 : decode cX8_take 63 = .ok (.aload_n 0, 1) := by decide +kernel
theorem d_X8_take_64 : decode cX8_take 64 = .ok (.getfield 15, 3) := by decide +kernel
theorem d_X8_take_67 : decode cX8_take 67 = .ok (.iload 5, 2) := by decide +kernel
theorem d_X8_take_69 : decode cX8_take 69 = .ok (.dup2, 1) := by decide +kernel
theorem d_X8_take_70 : decode cX8_take 70 = .ok (.iaload, 1) := by decide +kernel
theorem d_X8_take_71 : decode cX8_take 71 = .ok (.iconst 1, 1) := by decide +kernel
theorem d_X8_take_72 : decode cX8_take 72 = .ok (.iadd, 1) := by decide +kernel
theorem d_X8_take_73 : decode cX8_take 73 = .ok (.iastore, 1) := by decide +kernel
theorem d_X8_take_74 : decode cX8_take 74 = .ok (.iload 5, 2) := by decide +kernel
theorem d_X8_take_76 : decode cX8_take 76 = .ok (.iconst 1, 1) := by decide +kernel
theorem d_X8_take_77 : decode cX8_take 77 = .ok (.iadd, 1) := by decide +kernel
theorem d_X8_take_78 : decode cX8_take 78 = .ok (.iload_n 3, 1) := by decide +kernel
theorem d_X8_take_79 : decode cX8_take 79 = .ok (.ior, 1) := by decide +kernel
theorem d_X8_take_80 : decode cX8_take 80 = .ok (.istore 5, 2) := by decide +kernel
theorem d_X8_take_82 : decode cX8_take 82 = .ok (.goto (-26), 3) := by decide +kernel
theorem d_X8_take_85 : decode cX8_take 85 = .ok (.iconst 1, 1) := by decide +kernel
theorem d_X8_take_86 : decode cX8_take 86 = .ok (.ireturn, 1) := by decide +kernel
theorem d_X8_takeByNumber_0 : decode cX8_takeByNumber 0 = .ok (.aload_n 0, 1) := by decide +kernel
theorem d_X8_takeByNumber_1 : decode cX8_takeByNumber 1 = .ok (.invokevirtual 92, 3) := by decide +kernel
theorem d_X8_takeByNumber_4 : decode cX8_takeByNumber 4 = .ok (.iconst 0, 1) := by decide +kernel
theorem d_X8_takeByNumber_5 : decode cX8_takeByNumber 5 = .ok (.istore_n 2, 1) := by decide +kernel
theorem d_X8_takeByNumber_6 : decode cX8_takeByNumber 6 = .ok (.iconst 0, 1) := by decide +kernel
theorem d_X8_takeByNumber_7 : decode cX8_takeByNumber 7 = .ok (.istore_n 3, 1) := by decide +kernel
theorem d_X8_takeByNumber_8 : decode cX8_takeByNumber 8 = .ok (.iload_n 3, 1) := by decide +kernel
theorem d_X8_takeByNumber_9 : decode cX8_takeByNumber 9 = .ok (.aload_n 0, 1) := by decide +kernel
theorem d_X8_takeByNumber_10 : decode cX8_takeByNumber 10 = .ok (.getfield 21, 3) := by decide +kernel
theorem d_X8_takeByNumber_13 : decode cX8_takeByNumber 13 = .ok (.getfield 44, 3) := by decide +kernel
theorem d_X8_takeByNumber_16 : decode cX8_takeByNumber 16 = .ok (.if_icmp .ge 35, 3) := by decide +kernel
theorem d_X8_takeByNumber_19 : decode cX8_takeByNumber 19 = .ok (.aload_n 0, 1) := by decide +kernel
theorem d_X8_takeByNumber_20 : decode cX8_takeByNumber 20 = .ok (.getfield 21, 3) := by decide +kernel
theorem d_X8_takeByNumber_23 : decode cX8_takeByNumber 23 = .ok (.iload_n 3, 1) := by decide +kernel
theorem d_X8_takeByNumber_24 : decode cX8_takeByNumber 24 = .ok (.invokevirtual 53, 3) := by decide +kernel
theorem d_X8_takeByNumber_27 : decode cX8_takeByNumber 27 = .ok (.ifCond .eq 18, 3) := by decide +kernel
theorem d_X8_takeByNumber_30 : decode cX8_takeByNumber 30 = .ok (.aload_n 0, 1) := by decide +kernel
theorem d_X8_takeByNumber_31 : decode cX8_takeByNumber 31 = .ok (.iload_n 3, 1) := by decide +kernel
theorem d_X8_takeByNumber_32 : decode cX8_takeByNumber 32 = .ok (.iload_n 1, 1) := by decide +kernel
theorem d_X8_takeByNumber_33 : decode cX8_takeByNumber 33 = .ok (.invokevirtual 95, 3) := by decide +kernel
theorem d_X8_takeByNumber_36 : decode cX8_takeByNumber 36 = .ok (.ifCond .eq 9, 3) := by decide +kernel
theorem d_X8_takeByNumber_39 : decode cX8_takeByNumber 39 = .ok (.iload_n 2, 1) := by decide +kernel
theorem d_X8_takeByNumber_40 : decode cX8_takeByNumber 40 = .ok (.iconst 1, 1) := by decide +kernel
theorem d_X8_takeByNumber_41 : decode cX8_takeByNumber 41 = .ok (.iload_n 3, 1) := by decide +kernel
theorem d_X8_takeByNumber_42 : decode cX8_takeByNumber 42 = .ok (.ishl, 1) := by decide +kernel
theorem d_X8_takeByNumber_43 : decode cX8_takeByNumber 43 = .ok (.ior, 1) := by decide +kernel
theorem d_X8_takeByNumber_44 : decode cX8_takeByNumber 44 = .ok (.istore_n 2, 1) := by decide +kernel
theorem d_X8_takeByNumber_45 : decode cX8_takeByNumber 45 = .ok (.iinc 3 1, 3) := by decide +kernel
theorem d_X8_takeByNumber_48 : decode cX8_takeByNumber 48 = .ok (.goto (-40), 3) := by decide +kernel
theorem d_X8_takeByNumber_51 : decode cX8_takeByNumber 51 = .ok (.iload_n 2, 1) := by decide +kernel
theorem d_X8_takeByNumber_52 : decode cX8_takeByNumber 52 = .ok (.ireturn, 1) := by decide +kernel
theorem d_X11_most_0 : decode cX11_most 0 = .ok (.iload_n 1, 1) := by decide +kernel
theorem d_X11_most_1 : decode cX11_most 1 = .ok (.ifCond .lt 9, 3) := by decide +kernel
theorem d_X11_most_4 : decode cX11_most 4 = .ok (.iload_n 1, 1) := by decide +kernel
theorem d_X11_most_5 : decode cX11_most 5 = .ok (.bipush 24, 2) := by decide +kernel
theorem d_X11_most_7 : decode cX11_most 7 = .ok (.if_icmp .le 7, 3) := by decide +kernel
theorem d_X11_most_10 : decode cX11_most 10 = .ok (.iconst (-1), 1) := by decide +kernel
theorem d_X11_most_11 : decode cX11_most 11 = .ok (.goto 14, 3) := by decide +kernel
theorem d_X11_most_14 : decode cX11_most 14 = .ok (.aload_n 0, 1) := by decide +kernel
theorem d_X11_most_15 : decode cX11_most 15 = .ok (.getfield 51, 3) := by decide +kernel
theorem d_X11_most_18 : decode cX11_most 18 = .ok (.iload_n 1, 1) := by decide +kernel
theorem d_X11_most_19 : decode cX11_most 19 = .ok (.invokevirtual 261, 3) := by decide +kernel
theorem d_X11_most_22 : decode cX11_most 22 = .ok (.invokestatic 190, 3) := by decide +kernel
theorem d_X11_most_25 : decode cX11_most 25 = .ok (.ireturn, 1) := by decide +kernel
theorem d_X8_countInner__0 : decode cX8_countInner_ 0 = .ok (.iconst 1, 1) := by decide +kernel
theorem d_X8_countInner__1 : decode cX8_countInner_ 1 = .ok (.aload_n 0, 1) := by decide +kernel
theorem d_X8_countInner__2 : decode cX8_countInner_ 2 = .ok (.getfield 21, 3) := by decide +kernel
theorem d_X8_countInner__5 : decode cX8_countInner_ 5 = .ok (.getfield 39, 3) := by decide +kernel
theorem d_X8_countInner__8 : decode cX8_countInner_ 8 = .ok (.ishl, 1) := by decide +kernel
theorem d_X8_countInner__9 : decode cX8_countInner_ 9 = .ok (.istore_n 2, 1) := by decide +kernel
theorem d_X8_countInner__10 : decode cX8_countInner_ 10 = .ok (.iconst 0, 1) := by decide +kernel
theorem d_X8_countInner__11 : decode cX8_countInner_ 11 = .ok (.istore_n 3, 1) := by decide +kernel
theorem d_X8_countInner__12 : decode cX8_countInner_ 12 = .ok (.iload_n 3, 1) := by decide +kernel
theorem d_X8_countInner__13 : decode cX8_countInner_ 13 = .ok (.iload_n 2, 1) := by decide +kernel
theorem d_X8_countInner__14 : decode cX8_countInner_ 14 = .ok (.if_icmp .ge 16, 3) := by decide +kernel
theorem d_X8_countInner__17 : decode cX8_countInner_ 17 = .ok (.aload_n 0, 1) := by decide +kernel
theorem d_X8_countInner__18 : decode cX8_countInner_ 18 = .ok (.getfield 9, 3) := by decide +kernel
theorem d_X8_countInner__21 : decode cX8_countInner_ 21 = .ok (.iload_n 3, 1) := by decide +kernel
theorem d_X8_countInner__22 : decode cX8_countInner_ 22 = .ok (.iconst 0, 1) := by decide +kernel
theorem d_X8_countInner__23 : decode cX8_countInner_ 23 = .ok (.iastore, 1) := by decide +kernel
theorem d_X8_countInner__24 : decode cX8_countInner_ 24 = .ok (.iinc 3 1, 3) := by decide +kernel
theorem d_X8_countInner__27 : decode cX8_countInner_ 27 = .ok (.goto (-15), 3) := by decide +kernel
theorem d_X8_countInner__30 : decode cX8_countInner_ 30 = .ok (.iconst 0, 1) := by decide +kernel
theorem d_X8_countInner__31 : decode cX8_countInner_ 31 = .ok (.istore_n 3, 1) := by decide +kernel
theorem d_X8_countInner__32 : decode cX8_countInner_ 32 = .ok (.iload_n 3, 1) := by decide +kernel
theorem d_X8_countInner__33 : decode cX8_countInner_ 33 = .ok (.aload_n 0, 1) := by decide +kernel
theorem d_X8_countInner__34 : decode cX8_countInner_ 34 = .ok (.getfield 21, 3) := by decide +kernel
theorem d_X8_countInner__37 : decode cX8_countInner_ 37 = .ok (.getfield 44, 3) := by decide +kernel
theorem d_X8_countInner__40 : decode cX8_countInner_ 40 = .ok (.if_icmp .ge 71, 3) := by decide +kernel
theorem d_X8_countInner__43 : decode cX8_countInner_ 43 = .ok (.aload_n 1, 1) := by decide +kernel
theorem d_X8_countInner__44 : decode cX8_countInner_ 44 = .ok (.aload_n 0, 1) := by decide +kernel
theorem d_X8_countInner__45 : decode cX8_countInner_ 45 = .ok (.getfield 21, 3) := by decide +kernel
theorem d_X8_countInner__48 : decode cX8_countInner_ 48 = .ok (.getfield 47, 3) := by decide +kernel
theorem d_X8_countInner__51 : decode cX8_countInner_ 51 = .ok (.iload_n 3, 1) := by decide +kernel
theorem d_X8_countInner__52 : decode cX8_countInner_ 52 = .ok (.iaload, 1) := by decide +kernel
theorem d_X8_countInner__53 : decode cX8_countInner_ 53 = .ok (.iaload, 1) := by decide +kernel
theorem d_X8_countInner__54 : decode cX8_countInner_ 54 = .ok (.istore 4, 2) := by decide +kernel
theorem d_X8_countInner__56 : decode cX8_countInner_ 56 = .ok (.aload_n 1, 1) := by decide +kernel
theorem d_X8_countInner__57 : decode cX8_countInner_ 57 = .ok (.aload_n 0, 1) := by decide +kernel
theorem d_X8_countInner__58 : decode cX8_countInner_ 58 = .ok (.getfield 21, 3) := by decide +kernel
theorem d_X8_countInner__61 : decode cX8_countInner_ 61 = .ok (.getfield 50, 3) := by decide +kernel
theorem d_X8_countInner__64 : decode cX8_countInner_ 64 = .ok (.iload_n 3, 1) := by decide +kernel
theorem d_X8_countInner__65 : decode cX8_countInner_ 65 = .ok (.iaload, 1) := by decide +kernel
theorem d_X8_countInner__66 : decode cX8_countInner_ 66 = .ok (.iaload, 1) := by decide +kernel
theorem d_X8_countInner__67 : decode cX8_countInner_ 67 = .ok (.istore 5, 2) := by decide +kernel
theorem d_X8_countInner__69 : decode cX8_countInner_ 69 = .ok (.aload_n 0, 1) := by decide +kernel
theorem d_X8_countInner__70 : decode cX8_countInner_ 70 = .ok (.getfield 21, 3) := by decide +kernel
theorem d_X8_countInner__73 : decode cX8_countInner_ 73 = .ok (.iload_n 3, 1) := by decide +kernel
theorem d_X8_countInner__74 : decode cX8_countInner_ 74 = .ok (.invokevirtual 53, 3) := by decide +kernel
theorem d_X8_countInner__77 : decode cX8_countInner_ 77 = .ok (.ifCond .eq 28, 3) := by decide +kernel
theorem d_X8_countInner__80 : decode cX8_countInner_ 80 = .ok (.iload 4, 2) := by decide +kernel
theorem d_X8_countInner__82 : decode cX8_countInner_ 82 = .ok (.iload 5, 2) := by decide +kernel
theorem d_X8_countInner__84 : decode cX8_countInner_ 84 = .ok (.if_icmp .eq 21, 3) := by decide +kernel
theorem d_X8_countInner__87 : decode cX8_countInner_ 87 = .ok (.aload_n 0, 1) := by decide +kernel
theorem d_X8_countInner__88 : decode cX8_countInner_ 88 = .ok (.getfield 9, 3) := by decide +kernel
theorem d_X8_countInner__91 : decode cX8_countInner_ 91 = .ok (.iconst 1, 1) := by decide +kernel
theorem d_X8_countInner__92 : decode cX8_countInner_ 92 = .ok (.iload 4, 2) := by decide +kernel
theorem d_X8_countInner__94 : decode cX8_countInner_ 94 = .ok (.ishl, 1) := by decide +kernel
theorem d_X8_countInner__95 : decode cX8_countInner_ 95 = .ok (.iconst 1, 1) := by decide +kernel
theorem d_X8_countInner__96 : decode cX8_countInner_ 96 = .ok (.iload 5, 2) := by decide +kernel
theorem d_X8_countInner__98 : decode cX8_countInner_ 98 = .ok (.ishl, 1) := by decide +kernel
theorem d_X8_countInner__99 : decode cX8_countInner_ 99 = .ok (.ior, 1) := by decide +kernel
theorem d_X8_countInner__100 : decode cX8_countInner_ 100 = .ok (.dup2, 1) := by decide +kernel
theorem d_X8_countInner__101 : decode cX8_countInner_ 101 = .ok (.iaload, 1) := by decide +kernel
theorem d_X8_countInner__102 : decode cX8_countInner_ 102 = .ok (.iconst 1, 1) := by decide +kernel
theorem d_X8_countInner__103 : decode cX8_countInner_ 103 = .ok (.iadd, 1) := by decide +kernel
theorem d_X8_countInner__104 : decode cX8_countInner_ 104 = .ok (.iastore, 1) := by decide +kernel
theorem d_X8_countInner__105 : decode cX8_countInner_ 105 = .ok (.iinc 3 1, 3) := by decide +kernel
theorem d_X8_countInner__108 : decode cX8_countInner_ 108 = .ok (.goto (-76), 3) := by decide +kernel
theorem d_X8_countInner__111 : decode cX8_countInner_ 111 = .ok (.iconst 0, 1) := by decide +kernel
theorem d_X8_countInner__112 : decode cX8_countInner_ 112 = .ok (.istore_n 3, 1) := by decide +kernel
theorem d_X8_countInner__113 : decode cX8_countInner_ 113 = .ok (.iload_n 3, 1) := by decide +kernel
theorem d_X8_countInner__114 : decode cX8_countInner_ 114 = .ok (.aload_n 0, 1) := by decide +kernel
theorem d_X8_countInner__115 : decode cX8_countInner_ 115 = .ok (.getfield 21, 3) := by decide +kernel
theorem d_X8_countInner__118 : decode cX8_countInner_ 118 = .ok (.getfield 39, 3) := by decide +kernel
theorem d_X8_countInner__121 : decode cX8_countInner_ 121 = .ok (.if_icmp .ge 54, 3) := by decide +kernel
theorem d_X8_countInner__124 : decode cX8_countInner_ 124 = .ok (.iconst 0, 1) := by decide +kernel
theorem d_X8_countInner__125 : decode cX8_countInner_ 125 = .ok (.istore 4, 2) := by decide +kernel
theorem d_X8_countInner__127 : decode cX8_countInner_ 127 = .ok (.iload 4, 2) := by decide +kernel
theorem d_X8_countInner__129 : decode cX8_countInner_ 129 = .ok (.iload_n 2, 1) := by decide +kernel
theorem d_X8_countInner__130 : decode cX8_countInner_ 130 = .ok (.if_icmp .ge 39, 3) := by decide +kernel
theorem d_X8_countInner__133 : decode cX8_countInner_ 133 = .ok (.iload 4, 2) := by decide +kernel
theorem d_X8_countInner__135 : decode cX8_countInner_ 135 = .ok (.iload_n 3, 1) := by decide +kernel
theorem d_X8_countInner__136 : decode cX8_countInner_ 136 = .ok (.ishr, 1) := by decide +kernel
theorem d_X8_countInner__137 : decode cX8_countInner_ 137 = .ok (.iconst 1, 1) := by decide +kernel
theorem d_X8_countInner__138 : decode cX8_countInner_ 138 = .ok (.iand, 1) := by decide +kernel
theorem d_X8_countInner__139 : decode cX8_countInner_ 139 = .ok (.ifCond .eq 24, 3) := by decide +kernel
theorem d_X8_countInner__142 : decode cX8_countInner_ 142 = .ok (.aload_n 0, 1) := by decide +kernel
theorem d_X8_countInner__143 : decode cX8_countInner_ 143 = .ok (.getfield 9, 3) := by decide +kernel
theorem d_X8_countInner__146 : decode cX8_countInner_ 146 = .ok (.iload 4, 2) := by decide +kernel
theorem d_X8_countInner__148 : decode cX8_countInner_ 148 = .ok (.dup2, 1) := by decide +kernel
theorem d_X8_countInner__149 : decode cX8_countInner_ 149 = .ok (.iaload, 1) := by decide +kernel
theorem d_X8_countInner__150 : decode cX8_countInner_ 150 = .ok (.aload_n 0, 1) := by decide +kernel
theorem d_X8_countInner__151 : decode cX8_countInner_ 151 = .ok (.getfield 9, 3) := by decide +kernel
theorem d_X8_countInner__154 : decode cX8_countInner_ 154 = .ok (.iload 4, 2) := by decide +kernel
theorem d_X8_countInner__156 : decode cX8_countInner_ 156 = .ok (.iconst 1, 1) := by decide +kernel
theorem d_X8_countInner__157 : decode cX8_countInner_ 157 = .ok (.iload_n 3, 1) := by decide +kernel
theorem d_X8_countInner__158 : decode cX8_countInner_ 158 = .ok (.ishl, 1) := by decide +kernel
theorem d_X8_countInner__159 : decode cX8_countInner_ 159 = .ok (.ixor, 1) := by decide +kernel
theorem d_X8_countInner__160 : decode cX8_countInner_ 160 = .ok (.iaload, 1) := by decide +kernel
theorem d_X8_countInner__161 : decode cX8_countInner_ 161 = .ok (.iadd, 1) := by decide +kernel
theorem d_X8_countInner__162 : decode cX8_countInner_ 162 = .ok (.iastore, 1) := by decide +kernel
theorem d_X8_countInner__163 : decode cX8_countInner_ 163 = .ok (.iinc 4 1, 3) := by decide +kernel
theorem d_X8_countInner__166 : decode cX8_countInner_ 166 = .ok (.goto (-39), 3) := by decide +kernel
theorem d_X8_countInner__169 : decode cX8_countInner_ 169 = .ok (.iinc 3 1, 3) := by decide +kernel
theorem d_X8_countInner__172 : decode cX8_countInner_ 172 = .ok (.goto (-59), 3) := by decide +kernel
theorem d_X8_countInner__175 : decode cX8_countInner_ 175 = .ok (.return_, 1) := by decide +kernel
theorem d_X8_countInner_0 : decode cX8_countInner 0 = .ok (.aload_n 0, 1) := by decide +kernel
theorem d_X8_countInner_1 : decode cX8_countInner 1 = .ok (.aload_n 0, 1) := by decide +kernel
theorem d_X8_countInner_2 : decode cX8_countInner 2 = .ok (.getfield 18, 3) := by decide +kernel
theorem d_X8_countInner_5 : decode cX8_countInner 5 = .ok (.invokevirtual 35, 3) := by decide +kernel
theorem d_X8_countInner_8 : decode cX8_countInner 8 = .ok (.return_, 1) := by decide +kernel
theorem d_X8_greatestShare_0 : decode cX8_greatestShare 0 = .ok (.aload_n 0, 1) := by decide +kernel
theorem d_X8_greatestShare_1 : decode cX8_greatestShare 1 = .ok (.invokevirtual 71, 3) := by decide +kernel
theorem d_X8_greatestShare_4 : decode cX8_greatestShare 4 = .ok (.iconst 0, 1) := by decide +kernel
theorem d_X8_greatestShare_5 : decode cX8_greatestShare 5 = .ok (.istore_n 2, 1) := by decide +kernel
theorem d_X8_greatestShare_6 : decode cX8_greatestShare 6 = .ok (.iconst 3, 1) := by decide +kernel
theorem d_X8_greatestShare_7 : decode cX8_greatestShare 7 = .ok (.istore_n 3, 1) := by decide +kernel
theorem d_X8_greatestShare_8 : decode cX8_greatestShare 8 = .ok (.iload_n 3, 1) := by decide +kernel
theorem d_X8_greatestShare_9 : decode cX8_greatestShare 9 = .ok (.aload_n 0, 1) := by decide +kernel
theorem d_X8_greatestShare_10 : decode cX8_greatestShare 10 = .ok (.getfield 21, 3) := by decide +kernel
theorem d_X8_greatestShare_13 : decode cX8_greatestShare 13 = .ok (.invokevirtual 57, 3) := by decide +kernel
theorem d_X8_greatestShare_16 : decode cX8_greatestShare 16 = .ok (.if_icmp .gt 41, 3) := by decide +kernel
theorem d_X8_greatestShare_19 : decode cX8_greatestShare 19 = .ok (.iload_n 3, 1) := by decide +kernel
theorem d_X8_greatestShare_20 : decode cX8_greatestShare 20 = .ok (.invokestatic 65, 3) := by decide +kernel
theorem d_X8_greatestShare_23 : decode cX8_greatestShare 23 = .ok (.iload_n 1, 1) := by decide +kernel
theorem d_X8_greatestShare_24 : decode cX8_greatestShare 24 = .ok (.isub, 1) := by decide +kernel
theorem d_X8_greatestShare_25 : decode cX8_greatestShare 25 = .ok (.istore 4, 2) := by decide +kernel
theorem d_X8_greatestShare_27 : decode cX8_greatestShare 27 = .ok (.iload 4, 2) := by decide +kernel
theorem d_X8_greatestShare_29 : decode cX8_greatestShare 29 = .ok (.ifCond .le 22, 3) := by decide +kernel
theorem d_X8_greatestShare_32 : decode cX8_greatestShare 32 = .ok (.iload_n 2, 1) := by decide +kernel
theorem d_X8_greatestShare_33 : decode cX8_greatestShare 33 = .ok (.aload_n 0, 1) := by decide +kernel
theorem d_X8_greatestShare_34 : decode cX8_greatestShare 34 = .ok (.getfield 9, 3) := by decide +kernel
theorem d_X8_greatestShare_37 : decode cX8_greatestShare 37 = .ok (.iload_n 3, 1) := by decide +kernel
theorem d_X8_greatestShare_38 : decode cX8_greatestShare 38 = .ok (.iaload, 1) := by decide +kernel
theorem d_X8_greatestShare_39 : decode cX8_greatestShare 39 = .ok (.iload 4, 2) := by decide +kernel
theorem d_X8_greatestShare_41 : decode cX8_greatestShare 41 = .ok (.iadd, 1) := by decide +kernel
theorem d_X8_greatestShare_42 : decode cX8_greatestShare 42 = .ok (.iconst 1, 1) := by decide +kernel
theorem d_X8_greatestShare_43 : decode cX8_greatestShare 43 = .ok (.isub, 1) := by decide +kernel
theorem d_X8_greatestShare_44 : decode cX8_greatestShare 44 = .ok (.iload 4, 2) := by decide +kernel
theorem d_X8_greatestShare_46 : decode cX8_greatestShare 46 = .ok (.idiv, 1) := by decide +kernel
theorem d_X8_greatestShare_47 : decode cX8_greatestShare 47 = .ok (.invokestatic 76, 3) := by decide +kernel
theorem d_X8_greatestShare_50 : decode cX8_greatestShare 50 = .ok (.istore_n 2, 1) := by decide +kernel
theorem d_X8_greatestShare_51 : decode cX8_greatestShare 51 = .ok (.iinc 3 1, 3) := by decide +kernel
theorem d_X8_greatestShare_54 : decode cX8_greatestShare 54 = .ok (.goto (-46), 3) := by decide +kernel
theorem d_X8_greatestShare_57 : decode cX8_greatestShare 57 = .ok (.iload_n 2, 1) := by decide +kernel
theorem d_X8_greatestShare_58 : decode cX8_greatestShare 58 = .ok (.ireturn, 1) := by decide +kernel
theorem d_X8_fewestForests_0 : decode cX8_fewestForests 0 = .ok (.aload_n 0, 1) := by decide +kernel
theorem d_X8_fewestForests_1 : decode cX8_fewestForests 1 = .ok (.iconst 1, 1) := by decide +kernel
theorem d_X8_fewestForests_2 : decode cX8_fewestForests 2 = .ok (.invokevirtual 73, 3) := by decide +kernel
theorem d_X8_fewestForests_5 : decode cX8_fewestForests 5 = .ok (.ireturn, 1) := by decide +kernel
theorem d_X11_fewest_0 : decode cX11_fewest 0 = .ok (.aload_n 0, 1) := by decide +kernel
theorem d_X11_fewest_1 : decode cX11_fewest 1 = .ok (.getfield 51, 3) := by decide +kernel
theorem d_X11_fewest_4 : decode cX11_fewest 4 = .ok (.invokevirtual 264, 3) := by decide +kernel
theorem d_X11_fewest_7 : decode cX11_fewest 7 = .ok (.ireturn, 1) := by decide +kernel
theorem d_X8_mostTrees_0 : decode cX8_mostTrees 0 = .ok (.aload_n 0, 1) := by decide +kernel
theorem d_X8_mostTrees_1 : decode cX8_mostTrees 1 = .ok (.getfield 21, 3) := by decide +kernel
theorem d_X8_mostTrees_4 : decode cX8_mostTrees 4 = .ok (.getfield 39, 3) := by decide +kernel
theorem d_X8_mostTrees_7 : decode cX8_mostTrees 7 = .ok (.iconst 1, 1) := by decide +kernel
theorem d_X8_mostTrees_8 : decode cX8_mostTrees 8 = .ok (.isub, 1) := by decide +kernel
theorem d_X8_mostTrees_9 : decode cX8_mostTrees 9 = .ok (.istore_n 1, 1) := by decide +kernel
theorem d_X8_mostTrees_10 : decode cX8_mostTrees 10 = .ok (.iconst 0, 1) := by decide +kernel
theorem d_X8_mostTrees_11 : decode cX8_mostTrees 11 = .ok (.istore_n 2, 1) := by decide +kernel
theorem d_X8_mostTrees_12 : decode cX8_mostTrees 12 = .ok (.iload_n 2, 1) := by decide +kernel
theorem d_X8_mostTrees_13 : decode cX8_mostTrees 13 = .ok (.bipush 24, 2) := by decide +kernel
theorem d_X8_mostTrees_15 : decode cX8_mostTrees 15 = .ok (.if_icmp .ge 27, 3) := by decide +kernel
theorem d_X8_mostTrees_18 : decode cX8_mostTrees 18 = .ok (.aload_n 0, 1) := by decide +kernel
theorem d_X8_mostTrees_19 : decode cX8_mostTrees 19 = .ok (.iload_n 2, 1) := by decide +kernel
theorem d_X8_mostTrees_20 : decode cX8_mostTrees 20 = .ok (.iconst 1, 1) := by decide +kernel
theorem d_X8_mostTrees_21 : decode cX8_mostTrees 21 = .ok (.iadd, 1) := by decide +kernel
theorem d_X8_mostTrees_22 : decode cX8_mostTrees 22 = .ok (.invokevirtual 82, 3) := by decide +kernel
theorem d_X8_mostTrees_25 : decode cX8_mostTrees 25 = .ok (.invokestatic 65, 3) := by decide +kernel
theorem d_X8_mostTrees_28 : decode cX8_mostTrees 28 = .ok (.iload_n 2, 1) := by decide +kernel
theorem d_X8_mostTrees_29 : decode cX8_mostTrees 29 = .ok (.iconst 1, 1) := by decide +kernel
theorem d_X8_mostTrees_30 : decode cX8_mostTrees 30 = .ok (.iadd, 1) := by decide +kernel
theorem d_X8_mostTrees_31 : decode cX8_mostTrees 31 = .ok (.iload_n 1, 1) := by decide +kernel
theorem d_X8_mostTrees_32 : decode cX8_mostTrees 32 = .ok (.imul, 1) := by decide +kernel
theorem d_X8_mostTrees_33 : decode cX8_mostTrees 33 = .ok (.if_icmp .ne 9, 3) := by decide +kernel
theorem d_X8_mostTrees_36 : decode cX8_mostTrees 36 = .ok (.iinc 2 1, 3) := by decide +kernel
theorem d_X8_mostTrees_39 : decode cX8_mostTrees 39 = .ok (.goto (-27), 3) := by decide +kernel
theorem d_X8_mostTrees_42 : decode cX8_mostTrees 42 = .ok (.iload_n 2, 1) := by decide +kernel
theorem d_X8_mostTrees_43 : decode cX8_mostTrees 43 = .ok (.ireturn, 1) := by decide +kernel
theorem d_X11_trees_0 : decode cX11_trees 0 = .ok (.aload_n 0, 1) := by decide +kernel
theorem d_X11_trees_1 : decode cX11_trees 1 = .ok (.getfield 10, 3) := by decide +kernel
theorem d_X11_trees_4 : decode cX11_trees 4 = .ok (.getfield 184, 3) := by decide +kernel
theorem d_X11_trees_7 : decode cX11_trees 7 = .ok (.iconst 2, 1) := by decide +kernel
theorem d_X11_trees_8 : decode cX11_trees 8 = .ok (.if_icmp .ge 7, 3) := by decide +kernel
theorem d_X11_trees_11 : decode cX11_trees 11 = .ok (.iconst (-1), 1) := by decide +kernel
theorem d_X11_trees_12 : decode cX11_trees 12 = .ok (.goto 10, 3) := by decide +kernel
theorem d_X11_trees_15 : decode cX11_trees 15 = .ok (.aload_n 0, 1) := by decide +kernel
theorem d_X11_trees_16 : decode cX11_trees 16 = .ok (.getfield 51, 3) := by decide +kernel
theorem d_X11_trees_19 : decode cX11_trees 19 = .ok (.invokevirtual 267, 3) := by decide +kernel
theorem d_X11_trees_22 : decode cX11_trees 22 = .ok (.ireturn, 1) := by decide +kernel
theorem d_X8_findThick__0 : decode cX8_findThick_ 0 = .ok (.aload_n 0, 1) := by decide +kernel
theorem d_X8_findThick__1 : decode cX8_findThick_ 1 = .ok (.aload_n 1, 1) := by decide +kernel
theorem d_X8_findThick__2 : decode cX8_findThick_ 2 = .ok (.invokevirtual 35, 3) := by decide +kernel
theorem d_X8_findThick__5 : decode cX8_findThick_ 5 = .ok (.aload_n 0, 1) := by decide +kernel
theorem d_X8_findThick__6 : decode cX8_findThick_ 6 = .ok (.iconst 0, 1) := by decide +kernel
theorem d_X8_findThick__7 : decode cX8_findThick_ 7 = .ok (.putfield 25, 3) := by decide +kernel
theorem d_X8_findThick__10 : decode cX8_findThick_ 10 = .ok (.aload_n 0, 1) := by decide +kernel
theorem d_X8_findThick__11 : decode cX8_findThick_ 11 = .ok (.iconst (-1), 1) := by decide +kernel
theorem d_X8_findThick__12 : decode cX8_findThick_ 12 = .ok (.putfield 29, 3) := by decide +kernel
theorem d_X8_findThick__15 : decode cX8_findThick_ 15 = .ok (.aload_n 0, 1) := by decide +kernel
theorem d_X8_findThick__16 : decode cX8_findThick_ 16 = .ok (.iconst 1, 1) := by decide +kernel
theorem d_X8_findThick__17 : decode cX8_findThick_ 17 = .ok (.putfield 32, 3) := by decide +kernel
theorem d_X8_findThick__20 : decode cX8_findThick_ 20 = .ok (.iconst 3, 1) := by decide +kernel
theorem d_X8_findThick__21 : decode cX8_findThick_ 21 = .ok (.istore_n 3, 1) := by decide +kernel
theorem d_X8_findThick__22 : decode cX8_findThick_ 22 = .ok (.iload_n 3, 1) := by decide +kernel
theorem d_X8_findThick__23 : decode cX8_findThick_ 23 = .ok (.iload_n 2, 1) := by decide +kernel
theorem d_X8_findThick__24 : decode cX8_findThick_ 24 = .ok (.if_icmp .gt 95, 3) := by decide +kernel
theorem d_X8_findThick__27 : decode cX8_findThick_ 27 = .ok (.iload_n 3, 1) := by decide +kernel
theorem d_X8_findThick__28 : decode cX8_findThick_ 28 = .ok (.invokestatic 65, 3) := by decide +kernel
theorem d_X8_findThick__31 : decode cX8_findThick_ 31 = .ok (.iconst 1, 1) := by decide +kernel
theorem d_X8_findThick__32 : decode cX8_findThick_ 32 = .ok (.isub, 1) := by decide +kernel
theorem d_X8_findThick__33 : decode cX8_findThick_ 33 = .ok (.istore 4, 2) := by decide +kernel
theorem d_X8_findThick__35 : decode cX8_findThick_ 35 = .ok (.iload_n 3, 1) := by decide +kernel
theorem d_X8_findThick__36 : decode cX8_findThick_ 36 = .ok (.iload_n 2, 1) := by decide +kernel
theorem d_X8_findThick__37 : decode cX8_findThick_ 37 = .ok (.iconst (-1), 1) := by decide +kernel
theorem d_X8_findThick__38 : decode cX8_findThick_ 38 = .ok (.ixor, 1) := by decide +kernel
theorem d_X8_findThick__39 : decode cX8_findThick_ 39 = .ok (.iand, 1) := by decide +kernel
theorem d_X8_findThick__40 : decode cX8_findThick_ 40 = .ok (.ifCond .ne 73, 3) := by decide +kernel
theorem d_X8_findThick__43 : decode cX8_findThick_ 43 = .ok (.iload 4, 2) := by decide +kernel
theorem d_X8_findThick__45 : decode cX8_findThick_ 45 = .ok (.iconst 1, 1) := by decide +kernel
theorem d_X8_findThick__46 : decode cX8_findThick_ 46 = .ok (.if_icmp .ge 6, 3) := by decide +kernel
theorem d_X8_findThick__49 : decode cX8_findThick_ 49 = .ok (.goto 64, 3) := by decide +kernel
theorem d_X8_findThick__52 : decode cX8_findThick_ 52 = .ok (.aload_n 0, 1) := by decide +kernel
theorem d_X8_findThick__53 : decode cX8_findThick_ 53 = .ok (.getfield 9, 3) := by decide +kernel
theorem d_X8_findThick__56 : decode cX8_findThick_ 56 = .ok (.iload_n 3, 1) := by decide +kernel
theorem d_X8_findThick__57 : decode cX8_findThick_ 57 = .ok (.iaload, 1) := by decide +kernel
theorem d_X8_findThick__58 : decode cX8_findThick_ 58 = .ok (.aload_n 0, 1) := by decide +kernel
theorem d_X8_findThick__59 : decode cX8_findThick_ 59 = .ok (.getfield 32, 3) := by decide +kernel
theorem d_X8_findThick__62 : decode cX8_findThick_ 62 = .ok (.imul, 1) := by decide +kernel
theorem d_X8_findThick__63 : decode cX8_findThick_ 63 = .ok (.aload_n 0, 1) := by decide +kernel
theorem d_X8_findThick__64 : decode cX8_findThick_ 64 = .ok (.getfield 29, 3) := by decide +kernel
theorem d_X8_findThick__67 : decode cX8_findThick_ 67 = .ok (.iload 4, 2) := by decide +kernel
theorem d_X8_findThick__69 : decode cX8_findThick_ 69 = .ok (.imul, 1) := by decide +kernel
theorem d_X8_findThick__70 : decode cX8_findThick_ 70 = .ok (.isub, 1) := by decide +kernel
theorem d_X8_findThick__71 : decode cX8_findThick_ 71 = .ok (.istore 5, 2) := by decide +kernel
theorem d_X8_findThick__73 : decode cX8_findThick_ 73 = .ok (.iload 5, 2) := by decide +kernel
theorem d_X8_findThick__75 : decode cX8_findThick_ 75 = .ok (.ifCond .gt 17, 3) := by decide +kernel
theorem d_X8_findThick__78 : decode cX8_findThick_ 78 = .ok (.iload 5, 2) := by decide +kernel
theorem d_X8_findThick__80 : decode cX8_findThick_ 80 = .ok (.ifCond .ne 33, 3) := by decide +kernel
theorem d_X8_findThick__83 : decode cX8_findThick_ 83 = .ok (.iload 4, 2) := by decide +kernel
theorem d_X8_findThick__85 : decode cX8_findThick_ 85 = .ok (.aload_n 0, 1) := by decide +kernel
theorem d_X8_findThick__86 : decode cX8_findThick_ 86 = .ok (.getfield 32, 3) := by decide +kernel
theorem d_X8_findThick__89 : decode cX8_findThick_ 89 = .ok (.if_icmp .ge 24, 3) := by decide +kernel
theorem d_X8_findThick__92 : decode cX8_findThick_ 92 = .ok (.aload_n 0, 1) := by decide +kernel
theorem d_X8_findThick__93 : decode cX8_findThick_ 93 = .ok (.iload_n 3, 1) := by decide +kernel
theorem d_X8_findThick__94 : decode cX8_findThick_ 94 = .ok (.putfield 25, 3) := by decide +kernel
theorem d_X8_findThick__97 : decode cX8_findThick_ 97 = .ok (.aload_n 0, 1) := by decide +kernel
theorem d_X8_findThick__98 : decode cX8_findThick_ 98 = .ok (.aload_n 0, 1) := by decide +kernel
theorem d_X8_findThick__99 : decode cX8_findThick_ 99 = .ok (.getfield 9, 3) := by decide +kernel
theorem d_X8_findThick__102 : decode cX8_findThick_ 102 = .ok (.iload_n 3, 1) := by decide +kernel
theorem d_X8_findThick__103 : decode cX8_findThick_ 103 = .ok (.iaload, 1) := by decide +kernel
theorem d_X8_findThick__104 : decode cX8_findThick_ 104 = .ok (.putfield 29, 3) := by decide +kernel
theorem d_X8_findThick__107 : decode cX8_findThick_ 107 = .ok (.aload_n 0, 1) := by decide +kernel
theorem d_X8_findThick__108 : decode cX8_findThick_ 108 = .ok (.iload 4, 2) := by decide +kernel
theorem d_X8_findThick__110 : decode cX8_findThick_ 110 = .ok (.putfield 32, 3) := by decide +kernel
theorem d_X8_findThick__113 : decode cX8_findThick_ 113 = .ok (.iinc 3 1, 3) := by decide +kernel
theorem d_X8_findThick__116 : decode cX8_findThick_ 116 = .ok (.goto (-94), 3) := by decide +kernel
theorem d_X8_findThick__119 : decode cX8_findThick_ 119 = .ok (.return_, 1) := by decide +kernel
theorem d_X8_findThick_0 : decode cX8_findThick 0 = .ok (.aload_n 0, 1) := by decide +kernel
theorem d_X8_findThick_1 : decode cX8_findThick 1 = .ok (.aload_n 0, 1) := by decide +kernel
theorem d_X8_findThick_2 : decode cX8_findThick 2 = .ok (.getfield 18, 3) := by decide +kernel
theorem d_X8_findThick_5 : decode cX8_findThick 5 = .ok (.aload_n 0, 1) := by decide +kernel
theorem d_X8_findThick_6 : decode cX8_findThick 6 = .ok (.getfield 21, 3) := by decide +kernel
theorem d_X8_findThick_9 : decode cX8_findThick 9 = .ok (.invokevirtual 57, 3) := by decide +kernel
theorem d_X8_findThick_12 : decode cX8_findThick 12 = .ok (.invokevirtual 61, 3) := by decide +kernel
theorem d_X8_findThick_15 : decode cX8_findThick 15 = .ok (.return_, 1) := by decide +kernel
theorem d_X8_bestAbove_0 : decode cX8_bestAbove 0 = .ok (.aload_n 0, 1) := by decide +kernel
theorem d_X8_bestAbove_1 : decode cX8_bestAbove 1 = .ok (.getfield 29, 3) := by decide +kernel
theorem d_X8_bestAbove_4 : decode cX8_bestAbove 4 = .ok (.ireturn, 1) := by decide +kernel
theorem d_X8_bestBelow_0 : decode cX8_bestBelow 0 = .ok (.aload_n 0, 1) := by decide +kernel
theorem d_X8_bestBelow_1 : decode cX8_bestBelow 1 = .ok (.getfield 32, 3) := by decide +kernel
theorem d_X8_bestBelow_4 : decode cX8_bestBelow 4 = .ok (.ireturn, 1) := by decide +kernel
theorem d_X11_leastTerms_0 : decode cX11_leastTerms 0 = .ok (.iload_n 1, 1) := by decide +kernel
theorem d_X11_leastTerms_1 : decode cX11_leastTerms 1 = .ok (.istore_n 3, 1) := by decide +kernel
theorem d_X11_leastTerms_2 : decode cX11_leastTerms 2 = .ok (.iload_n 0, 1) := by decide +kernel
theorem d_X11_leastTerms_3 : decode cX11_leastTerms 3 = .ok (.istore 4, 2) := by decide +kernel
theorem d_X11_leastTerms_5 : decode cX11_leastTerms 5 = .ok (.iconst 0, 1) := by decide +kernel
theorem d_X11_leastTerms_6 : decode cX11_leastTerms 6 = .ok (.istore 5, 2) := by decide +kernel
theorem d_X11_leastTerms_8 : decode cX11_leastTerms 8 = .ok (.iload 5, 2) := by decide +kernel
theorem d_X11_leastTerms_10 : decode cX11_leastTerms 10 = .ok (.bipush 64, 2) := by decide +kernel
theorem d_X11_leastTerms_12 : decode cX11_leastTerms 12 = .ok (.if_icmp .ge 27, 3) := by decide +kernel
theorem d_X11_leastTerms_15 : decode cX11_leastTerms 15 = .ok (.iload 4, 2) := by decide +kernel
theorem d_X11_leastTerms_17 : decode cX11_leastTerms 17 = .ok (.ifCond .eq 22, 3) := by decide +kernel
theorem d_X11_leastTerms_20 : decode cX11_leastTerms 20 = .ok (.iload_n 3, 1) := by decide +kernel
theorem d_X11_leastTerms_21 : decode cX11_leastTerms 21 = .ok (.iload 4, 2) := by decide +kernel
theorem d_X11_leastTerms_23 : decode cX11_leastTerms 23 = .ok (.irem, 1) := by decide +kernel
theorem d_X11_leastTerms_24 : decode cX11_leastTerms 24 = .ok (.istore 6, 2) := by decide +kernel
theorem d_X11_leastTerms_26 : decode cX11_leastTerms 26 = .ok (.iload 4, 2) := by decide +kernel
theorem d_X11_leastTerms_28 : decode cX11_leastTerms 28 = .ok (.istore_n 3, 1) := by decide +kernel
theorem d_X11_leastTerms_29 : decode cX11_leastTerms 29 = .ok (.iload 6, 2) := by decide +kernel
theorem d_X11_leastTerms_31 : decode cX11_leastTerms 31 = .ok (.istore 4, 2) := by decide +kernel
theorem d_X11_leastTerms_33 : decode cX11_leastTerms 33 = .ok (.iinc 5 1, 3) := by decide +kernel
theorem d_X11_leastTerms_36 : decode cX11_leastTerms 36 = .ok (.goto (-28), 3) := by decide +kernel
theorem d_X11_leastTerms_39 : decode cX11_leastTerms 39 = .ok (.iload_n 2, 1) := by decide +kernel
theorem d_X11_leastTerms_40 : decode cX11_leastTerms 40 = .ok (.ifCond .ne 7, 3) := by decide +kernel
theorem d_X11_leastTerms_43 : decode cX11_leastTerms 43 = .ok (.iload_n 0, 1) := by decide +kernel
theorem d_X11_leastTerms_44 : decode cX11_leastTerms 44 = .ok (.goto 4, 3) := by decide +kernel
theorem d_X11_leastTerms_47 : decode cX11_leastTerms 47 = .ok (.iload_n 1, 1) := by decide +kernel
theorem d_X11_leastTerms_48 : decode cX11_leastTerms 48 = .ok (.istore 5, 2) := by decide +kernel
theorem d_X11_leastTerms_50 : decode cX11_leastTerms 50 = .ok (.iload_n 3, 1) := by decide +kernel
theorem d_X11_leastTerms_51 : decode cX11_leastTerms 51 = .ok (.ifCond .ne 8, 3) := by decide +kernel
theorem d_X11_leastTerms_54 : decode cX11_leastTerms 54 = .ok (.iload 5, 2) := by decide +kernel
theorem d_X11_leastTerms_56 : decode cX11_leastTerms 56 = .ok (.goto 7, 3) := by decide +kernel
theorem d_X11_leastTerms_59 : decode cX11_leastTerms 59 = .ok (.iload 5, 2) := by decide +kernel
theorem d_X11_leastTerms_61 : decode cX11_leastTerms 61 = .ok (.iload_n 3, 1) := by decide +kernel
theorem d_X11_leastTerms_62 : decode cX11_leastTerms 62 = .ok (.idiv, 1) := by decide +kernel
theorem d_X11_leastTerms_63 : decode cX11_leastTerms 63 = .ok (.ireturn, 1) := by decide +kernel
theorem d_X8_bestSet_0 : decode cX8_bestSet 0 = .ok (.aload_n 0, 1) := by decide +kernel
theorem d_X8_bestSet_1 : decode cX8_bestSet 1 = .ok (.getfield 25, 3) := by decide +kernel
theorem d_X8_bestSet_4 : decode cX8_bestSet 4 = .ok (.ireturn, 1) := by decide +kernel
theorem d_X11_thick_0 : decode cX11_thick 0 = .ok (.aload_n 0, 1) := by decide +kernel
theorem d_X11_thick_1 : decode cX11_thick 1 = .ok (.getfield 10, 3) := by decide +kernel
theorem d_X11_thick_4 : decode cX11_thick 4 = .ok (.getfield 184, 3) := by decide +kernel
theorem d_X11_thick_7 : decode cX11_thick 7 = .ok (.iconst 2, 1) := by decide +kernel
theorem d_X11_thick_8 : decode cX11_thick 8 = .ok (.if_icmp .lt 12, 3) := by decide +kernel
theorem d_X11_thick_11 : decode cX11_thick 11 = .ok (.iload_n 1, 1) := by decide +kernel
theorem d_X11_thick_12 : decode cX11_thick 12 = .ok (.ifCond .lt 8, 3) := by decide +kernel
theorem d_X11_thick_15 : decode cX11_thick 15 = .ok (.iload_n 1, 1) := by decide +kernel
theorem d_X11_thick_16 : decode cX11_thick 16 = .ok (.iconst 2, 1) := by decide +kernel
theorem d_X11_thick_17 : decode cX11_thick 17 = .ok (.if_icmp .le 5, 3) := by decide +kernel
theorem d_X11_thick_20 : decode cX11_thick 20 = .ok (.iconst (-1), 1) := by decide +kernel
theorem d_X11_thick_21 : decode cX11_thick 21 = .ok (.ireturn, 1) := by decide +kernel
theorem d_X11_thick_22 : decode cX11_thick 22 = .ok (.aload_n 0, 1) := by decide +kernel
theorem d_X11_thick_23 : decode cX11_thick 23 = .ok (.getfield 51, 3) := by decide +kernel
theorem d_X11_thick_26 : decode cX11_thick 26 = .ok (.invokevirtual 270, 3) := by decide +kernel
theorem d_X11_thick_29 : decode cX11_thick 29 = .ok (.iload_n 1, 1) := by decide +kernel
theorem d_X11_thick_30 : decode cX11_thick 30 = .ok (.iconst 2, 1) := by decide +kernel
theorem d_X11_thick_31 : decode cX11_thick 31 = .ok (.if_icmp .ne 11, 3) := by decide +kernel
theorem d_X11_thick_34 : decode cX11_thick 34 = .ok (.aload_n 0, 1) := by decide +kernel
theorem d_X11_thick_35 : decode cX11_thick 35 = .ok (.getfield 51, 3) := by decide +kernel
theorem d_X11_thick_38 : decode cX11_thick 38 = .ok (.invokevirtual 273, 3) := by decide +kernel
theorem d_X11_thick_41 : decode cX11_thick 41 = .ok (.ireturn, 1) := by decide +kernel
theorem d_X11_thick_42 : decode cX11_thick 42 = .ok (.aload_n 0, 1) := by decide +kernel
theorem d_X11_thick_43 : decode cX11_thick 43 = .ok (.getfield 51, 3) := by decide +kernel
theorem d_X11_thick_46 : decode cX11_thick 46 = .ok (.invokevirtual 276, 3) := by decide +kernel
theorem d_X11_thick_49 : decode cX11_thick 49 = .ok (.aload_n 0, 1) := by decide +kernel
theorem d_X11_thick_50 : decode cX11_thick 50 = .ok (.getfield 51, 3) := by decide +kernel
theorem d_X11_thick_53 : decode cX11_thick 53 = .ok (.invokevirtual 279, 3) := by decide +kernel
theorem d_X11_thick_56 : decode cX11_thick 56 = .ok (.iload_n 1, 1) := by decide +kernel
theorem d_X11_thick_57 : decode cX11_thick 57 = .ok (.invokestatic 282, 3) := by decide +kernel
theorem d_X11_thick_60 : decode cX11_thick 60 = .ok (.ireturn, 1) := by decide +kernel
theorem d_X8_findCrowded_0 : decode cX8_findCrowded 0 = .ok (.aload_n 0, 1) := by decide +kernel
theorem d_X8_findCrowded_1 : decode cX8_findCrowded 1 = .ok (.invokevirtual 71, 3) := by decide +kernel
theorem d_X8_findCrowded_4 : decode cX8_findCrowded 4 = .ok (.iconst 0, 1) := by decide +kernel
theorem d_X8_findCrowded_5 : decode cX8_findCrowded 5 = .ok (.istore_n 2, 1) := by decide +kernel
theorem d_X8_findCrowded_6 : decode cX8_findCrowded 6 = .ok (.iconst 0, 1) := by decide +kernel
theorem d_X8_findCrowded_7 : decode cX8_findCrowded 7 = .ok (.istore_n 3, 1) := by decide +kernel
theorem d_X8_findCrowded_8 : decode cX8_findCrowded 8 = .ok (.iconst 0, 1) := by decide +kernel
theorem d_X8_findCrowded_9 : decode cX8_findCrowded 9 = .ok (.istore 4, 2) := by decide +kernel
theorem d_X8_findCrowded_11 : decode cX8_findCrowded 11 = .ok (.iconst 3, 1) := by decide +kernel
theorem d_X8_findCrowded_12 : decode cX8_findCrowded 12 = .ok (.istore 5, 2) := by decide +kernel
theorem d_X8_findCrowded_14 : decode cX8_findCrowded 14 = .ok (.iload 5, 2) := by decide +kernel
theorem d_X8_findCrowded_16 : decode cX8_findCrowded 16 = .ok (.aload_n 0, 1) := by decide +kernel
theorem d_X8_findCrowded_17 : decode cX8_findCrowded 17 = .ok (.getfield 21, 3) := by decide +kernel
theorem d_X8_findCrowded_20 : decode cX8_findCrowded 20 = .ok (.invokevirtual 57, 3) := by decide +kernel
theorem d_X8_findCrowded_23 : decode cX8_findCrowded 23 = .ok (.if_icmp .gt 70, 3) := by decide +kernel
theorem d_X8_findCrowded_26 : decode cX8_findCrowded 26 = .ok (.iload 5, 2) := by decide +kernel
theorem d_X8_findCrowded_28 : decode cX8_findCrowded 28 = .ok (.invokestatic 65, 3) := by decide +kernel
theorem d_X8_findCrowded_31 : decode cX8_findCrowded 31 = .ok (.istore 6, 2) := by decide +kernel
theorem d_X8_findCrowded_33 : decode cX8_findCrowded 33 = .ok (.iload 6, 2) := by decide +kernel
theorem d_X8_findCrowded_35 : decode cX8_findCrowded 35 = .ok (.iconst 2, 1) := by decide +kernel
theorem d_X8_findCrowded_36 : decode cX8_findCrowded 36 = .ok (.if_icmp .ge 6, 3) := by decide +kernel
theorem d_X8_findCrowded_39 : decode cX8_findCrowded 39 = .ok (.goto 48, 3) := by decide +kernel
theorem d_X8_findCrowded_42 : decode cX8_findCrowded 42 = .ok (.aload_n 0, 1) := by decide +kernel
theorem d_X8_findCrowded_43 : decode cX8_findCrowded 43 = .ok (.getfield 9, 3) := by decide +kernel
theorem d_X8_findCrowded_46 : decode cX8_findCrowded 46 = .ok (.iload 5, 2) := by decide +kernel
theorem d_X8_findCrowded_48 : decode cX8_findCrowded 48 = .ok (.iaload, 1) := by decide +kernel
theorem d_X8_findCrowded_49 : decode cX8_findCrowded 49 = .ok (.iload_n 1, 1) := by decide +kernel
theorem d_X8_findCrowded_50 : decode cX8_findCrowded 50 = .ok (.iload 6, 2) := by decide +kernel
theorem d_X8_findCrowded_52 : decode cX8_findCrowded 52 = .ok (.iconst 1, 1) := by decide +kernel
theorem d_X8_findCrowded_53 : decode cX8_findCrowded 53 = .ok (.isub, 1) := by decide +kernel
theorem d_X8_findCrowded_54 : decode cX8_findCrowded 54 = .ok (.imul, 1) := by decide +kernel
theorem d_X8_findCrowded_55 : decode cX8_findCrowded 55 = .ok (.isub, 1) := by decide +kernel
theorem d_X8_findCrowded_56 : decode cX8_findCrowded 56 = .ok (.istore 7, 2) := by decide +kernel
theorem d_X8_findCrowded_58 : decode cX8_findCrowded 58 = .ok (.iload 7, 2) := by decide +kernel
theorem d_X8_findCrowded_60 : decode cX8_findCrowded 60 = .ok (.iload_n 3, 1) := by decide +kernel
theorem d_X8_findCrowded_61 : decode cX8_findCrowded 61 = .ok (.if_icmp .gt 16, 3) := by decide +kernel
theorem d_X8_findCrowded_64 : decode cX8_findCrowded 64 = .ok (.iload 7, 2) := by decide +kernel
theorem d_X8_findCrowded_66 : decode cX8_findCrowded 66 = .ok (.iload_n 3, 1) := by decide +kernel
theorem d_X8_findCrowded_67 : decode cX8_findCrowded 67 = .ok (.if_icmp .ne 20, 3) := by decide +kernel
theorem d_X8_findCrowded_70 : decode cX8_findCrowded 70 = .ok (.iload 6, 2) := by decide +kernel
theorem d_X8_findCrowded_72 : decode cX8_findCrowded 72 = .ok (.iload 4, 2) := by decide +kernel
theorem d_X8_findCrowded_74 : decode cX8_findCrowded 74 = .ok (.if_icmp .ge 13, 3) := by decide +kernel
theorem d_X8_findCrowded_77 : decode cX8_findCrowded 77 = .ok (.iload 5, 2) := by decide +kernel
theorem d_X8_findCrowded_79 : decode cX8_findCrowded 79 = .ok (.istore_n 2, 1) := by decide +kernel
theorem d_X8_findCrowded_80 : decode cX8_findCrowded 80 = .ok (.iload 7, 2) := by decide +kernel
theorem d_X8_findCrowded_82 : decode cX8_findCrowded 82 = .ok (.istore_n 3, 1) := by decide +kernel
theorem d_X8_findCrowded_83 : decode cX8_findCrowded 83 = .ok (.iload 6, 2) := by decide +kernel
theorem d_X8_findCrowded_85 : decode cX8_findCrowded 85 = .ok (.istore 4, 2) := by decide +kernel
theorem d_X8_findCrowded_87 : decode cX8_findCrowded 87 = .ok (.iinc 5 1, 3) := by decide +kernel
theorem d_X8_findCrowded_90 : decode cX8_findCrowded 90 = .ok (.goto (-76), 3) := by decide +kernel
theorem d_X8_findCrowded_93 : decode cX8_findCrowded 93 = .ok (.iload_n 2, 1) := by decide +kernel
theorem d_X8_findCrowded_94 : decode cX8_findCrowded 94 = .ok (.ireturn, 1) := by decide +kernel
theorem d_X11_crowded_0 : decode cX11_crowded 0 = .ok (.iload_n 1, 1) := by decide +kernel
theorem d_X11_crowded_1 : decode cX11_crowded 1 = .ok (.ifCond .lt 9, 3) := by decide +kernel
theorem d_X11_crowded_4 : decode cX11_crowded 4 = .ok (.iload_n 1, 1) := by decide +kernel
theorem d_X11_crowded_5 : decode cX11_crowded 5 = .ok (.bipush 24, 2) := by decide +kernel
theorem d_X11_crowded_7 : decode cX11_crowded 7 = .ok (.if_icmp .le 7, 3) := by decide +kernel
theorem d_X11_crowded_10 : decode cX11_crowded 10 = .ok (.iconst (-1), 1) := by decide +kernel
theorem d_X11_crowded_11 : decode cX11_crowded 11 = .ok (.goto 11, 3) := by decide +kernel
theorem d_X11_crowded_14 : decode cX11_crowded 14 = .ok (.aload_n 0, 1) := by decide +kernel
theorem d_X11_crowded_15 : decode cX11_crowded 15 = .ok (.getfield 51, 3) := by decide +kernel
theorem d_X11_crowded_18 : decode cX11_crowded 18 = .ok (.iload_n 1, 1) := by decide +kernel
theorem d_X11_crowded_19 : decode cX11_crowded 19 = .ok (.invokevirtual 286, 3) := by decide +kernel
theorem d_X11_crowded_22 : decode cX11_crowded 22 = .ok (.ireturn, 1) := by decide +kernel
theorem d_X8_innerOf_0 : decode cX8_innerOf 0 = .ok (.iload_n 1, 1) := by decide +kernel
theorem d_X8_innerOf_1 : decode cX8_innerOf 1 = .ok (.ifCond .lt 10, 3) := by decide +kernel
theorem d_X8_innerOf_4 : decode cX8_innerOf 4 = .ok (.iload_n 1, 1) := by decide +kernel
theorem d_X8_innerOf_5 : decode cX8_innerOf 5 = .ok (.sipush 1024, 3) := by decide +kernel
theorem d_X8_innerOf_8 : decode cX8_innerOf 8 = .ok (.if_icmp .lt 7, 3) := by decide +kernel
theorem d_X8_innerOf_11 : decode cX8_innerOf 11 = .ok (.iconst 0, 1) := by decide +kernel
theorem d_X8_innerOf_12 : decode cX8_innerOf 12 = .ok (.goto 9, 3) := by decide +kernel
theorem d_X8_innerOf_15 : decode cX8_innerOf 15 = .ok (.aload_n 0, 1) := by decide +kernel
theorem d_X8_innerOf_16 : decode cX8_innerOf 16 = .ok (.getfield 9, 3) := by decide +kernel
theorem d_X8_innerOf_19 : decode cX8_innerOf 19 = .ok (.iload_n 1, 1) := by decide +kernel
theorem d_X8_innerOf_20 : decode cX8_innerOf 20 = .ok (.iaload, 1) := by decide +kernel
theorem d_X8_innerOf_21 : decode cX8_innerOf 21 = .ok (.ireturn, 1) := by decide +kernel
theorem d_X7_mostInside_0 : decode cX7_mostInside 0 = .ok (.iload_n 1, 1) := by decide +kernel
theorem d_X7_mostInside_1 : decode cX7_mostInside 1 = .ok (.iload_n 1, 1) := by decide +kernel
theorem d_X7_mostInside_2 : decode cX7_mostInside 2 = .ok (.ineg, 1) := by decide +kernel
theorem d_X7_mostInside_3 : decode cX7_mostInside 3 = .ok (.iand, 1) := by decide +kernel
theorem d_X7_mostInside_4 : decode cX7_mostInside 4 = .ok (.istore_n 2, 1) := by decide +kernel
theorem d_X7_mostInside_5 : decode cX7_mostInside 5 = .ok (.iload_n 1, 1) := by decide +kernel
theorem d_X7_mostInside_6 : decode cX7_mostInside 6 = .ok (.iload_n 2, 1) := by decide +kernel
theorem d_X7_mostInside_7 : decode cX7_mostInside 7 = .ok (.ixor, 1) := by decide +kernel
theorem d_X7_mostInside_8 : decode cX7_mostInside 8 = .ok (.istore_n 3, 1) := by decide +kernel
theorem d_X7_mostInside_9 : decode cX7_mostInside 9 = .ok (.iconst (-1), 1) := by decide +kernel
theorem d_X7_mostInside_10 : decode cX7_mostInside 10 = .ok (.istore 4, 2) := by decide +kernel
theorem d_X7_mostInside_12 : decode cX7_mostInside 12 = .ok (.iload_n 3, 1) := by decide +kernel
theorem d_X7_mostInside_13 : decode cX7_mostInside 13 = .ok (.istore 5, 2) := by decide +kernel
theorem d_X7_mostInside_15 : decode cX7_mostInside 15 = .ok (.iload 5, 2) := by decide +kernel
theorem d_X7_mostInside_17 : decode cX7_mostInside 17 = .ok (.ifCond .le 51, 3) := by decide +kernel
theorem d_X7_mostInside_20 : decode cX7_mostInside 20 = .ok (.aload_n 0, 1) := by decide +kernel
theorem d_X7_mostInside_21 : decode cX7_mostInside 21 = .ok (.getfield 9, 3) := by decide +kernel
theorem d_X7_mostInside_24 : decode cX7_mostInside 24 = .ok (.iload 5, 2) := by decide +kernel
theorem d_X7_mostInside_26 : decode cX7_mostInside 26 = .ok (.iaload, 1) := by decide +kernel
theorem d_X7_mostInside_27 : decode cX7_mostInside 27 = .ok (.iconst (-1), 1) := by decide +kernel
theorem d_X7_mostInside_28 : decode cX7_mostInside 28 = .ok (.if_icmp .eq 29, 3) := by decide +kernel
theorem d_X7_mostInside_31 : decode cX7_mostInside 31 = .ok (.iload 4, 2) := by decide +kernel
theorem d_X7_mostInside_33 : decode cX7_mostInside 33 = .ok (.aload_n 0, 1) := by decide +kernel
theorem d_X7_mostInside_34 : decode cX7_mostInside 34 = .ok (.getfield 9, 3) := by decide +kernel
theorem d_X7_mostInside_37 : decode cX7_mostInside 37 = .ok (.iload 5, 2) := by decide +kernel
theorem d_X7_mostInside_39 : decode cX7_mostInside 39 = .ok (.iaload, 1) := by decide +kernel
theorem d_X7_mostInside_40 : decode cX7_mostInside 40 = .ok (.aload_n 0, 1) := by decide +kernel
theorem d_X7_mostInside_41 : decode cX7_mostInside 41 = .ok (.getfield 22, 3) := by decide +kernel
theorem d_X7_mostInside_44 : decode cX7_mostInside 44 = .ok (.iload_n 1, 1) := by decide +kernel
theorem d_X7_mostInside_45 : decode cX7_mostInside 45 = .ok (.iload 5, 2) := by decide +kernel
theorem d_X7_mostInside_47 : decode cX7_mostInside 47 = .ok (.ixor, 1) := by decide +kernel
theorem d_X7_mostInside_48 : decode cX7_mostInside 48 = .ok (.invokevirtual 44, 3) := by decide +kernel
theorem d_X7_mostInside_51 : decode cX7_mostInside 51 = .ok (.iadd, 1) := by decide +kernel
theorem d_X7_mostInside_52 : decode cX7_mostInside 52 = .ok (.invokestatic 58, 3) := by decide +kernel
theorem d_X7_mostInside_55 : decode cX7_mostInside 55 = .ok (.istore 4, 2) := by decide +kernel
theorem d_X7_mostInside_57 : decode cX7_mostInside 57 = .ok (.iload 5, 2) := by decide +kernel
theorem d_X7_mostInside_59 : decode cX7_mostInside 59 = .ok (.iconst 1, 1) := by decide +kernel
theorem d_X7_mostInside_60 : decode cX7_mostInside 60 = .ok (.isub, 1) := by decide +kernel
theorem d_X7_mostInside_61 : decode cX7_mostInside 61 = .ok (.iload_n 3, 1) := by decide +kernel
theorem d_X7_mostInside_62 : decode cX7_mostInside 62 = .ok (.iand, 1) := by decide +kernel
theorem d_X7_mostInside_63 : decode cX7_mostInside 63 = .ok (.istore 5, 2) := by decide +kernel
theorem d_X7_mostInside_65 : decode cX7_mostInside 65 = .ok (.goto (-50), 3) := by decide +kernel
theorem d_X7_mostInside_68 : decode cX7_mostInside 68 = .ok (.iload 4, 2) := by decide +kernel
theorem d_X7_mostInside_70 : decode cX7_mostInside 70 = .ok (.ireturn, 1) := by decide +kernel
theorem d_X7_addPiece_0 : decode cX7_addPiece 0 = .ok (.iconst 2, 1) := by decide +kernel
theorem d_X7_addPiece_1 : decode cX7_addPiece 1 = .ok (.istore_n 2, 1) := by decide +kernel
theorem d_X7_addPiece_2 : decode cX7_addPiece 2 = .ok (.iload_n 2, 1) := by decide +kernel
theorem d_X7_addPiece_3 : decode cX7_addPiece 3 = .ok (.iload_n 1, 1) := by decide +kernel
theorem d_X7_addPiece_4 : decode cX7_addPiece 4 = .ok (.if_icmp .gt 20, 3) := by decide +kernel
theorem d_X7_addPiece_7 : decode cX7_addPiece 7 = .ok (.aload_n 0, 1) := by decide +kernel
theorem d_X7_addPiece_8 : decode cX7_addPiece 8 = .ok (.getfield 15, 3) := by decide +kernel
theorem d_X7_addPiece_11 : decode cX7_addPiece 11 = .ok (.iload_n 2, 1) := by decide +kernel
theorem d_X7_addPiece_12 : decode cX7_addPiece 12 = .ok (.aload_n 0, 1) := by decide +kernel
theorem d_X7_addPiece_13 : decode cX7_addPiece 13 = .ok (.iload_n 2, 1) := by decide +kernel
theorem d_X7_addPiece_14 : decode cX7_addPiece 14 = .ok (.invokevirtual 51, 3) := by decide +kernel
theorem d_X7_addPiece_17 : decode cX7_addPiece 17 = .ok (.iastore, 1) := by decide +kernel
theorem d_X7_addPiece_18 : decode cX7_addPiece 18 = .ok (.iinc 2 2, 3) := by decide +kernel
theorem d_X7_addPiece_21 : decode cX7_addPiece 21 = .ok (.goto (-19), 3) := by decide +kernel
theorem d_X7_addPiece_24 : decode cX7_addPiece 24 = .ok (.aload_n 0, 1) := by decide +kernel
theorem d_X7_addPiece_25 : decode cX7_addPiece 25 = .ok (.getfield 9, 3) := by decide +kernel
theorem d_X7_addPiece_28 : decode cX7_addPiece 28 = .ok (.astore_n 2, 1) := by decide +kernel
theorem d_X7_addPiece_29 : decode cX7_addPiece 29 = .ok (.aload_n 0, 1) := by decide +kernel
theorem d_X7_addPiece_30 : decode cX7_addPiece 30 = .ok (.aload_n 0, 1) := by decide +kernel
theorem d_X7_addPiece_31 : decode cX7_addPiece 31 = .ok (.getfield 15, 3) := by decide +kernel
theorem d_X7_addPiece_34 : decode cX7_addPiece 34 = .ok (.putfield 9, 3) := by decide +kernel
theorem d_X7_addPiece_37 : decode cX7_addPiece 37 = .ok (.aload_n 0, 1) := by decide +kernel
theorem d_X7_addPiece_38 : decode cX7_addPiece 38 = .ok (.aload_n 2, 1) := by decide +kernel
theorem d_X7_addPiece_39 : decode cX7_addPiece 39 = .ok (.putfield 15, 3) := by decide +kernel
theorem d_X7_addPiece_42 : decode cX7_addPiece 42 = .ok (.return_, 1) := by decide +kernel
theorem d_X7_findWeakest_0 : decode cX7_findWeakest 0 = .ok (.aload_n 0, 1) := by decide +kernel
