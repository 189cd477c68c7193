-- needs: 08.links
theorem d_X11_leastTerms_23 : decode cX11_leastTerms 23 = .ok (.irem, 1) := by decide +kernel
theorem d_X11_leastTerms_24 : decode cX11_leastTerms 24 = .ok (.istore 6, 2) := by decide +kernel
theorem d_X11_leastTerms_26 : decode cX11_leastTerms 26 = .ok (.iload 4, 2) := by decide +kernel
theorem d_X11_leastTerms_28 : decode cX11_leastTerms 28 = .ok (.istore_n 3, 1) := by decide +kernel
theorem d_X11_leastTerms_29 : decode cX11_leastTerms 29 = .ok (.iload 6, 2) := by decide +kernel
theorem d_X11_leastTerms_31 : decode cX11_leastTerms 31 = .ok (.istore 4, 2) := by decide +kernel
theorem d_X11_leastTerms_33 : decode cX11_leastTerms 33 = .ok (.iinc 5 1, 3) := by decide +kernel
theorem d_X11_leastTerms_36 : decode cX11_leastTerms 36 = .ok (.goto (-28), 3) := by decide +kernel
theorem d_X11_leastTerms_39 : decode cX11_leastTerms 39 = .ok (.iload_n 2, 1) := by decide +kernel
theorem d_X11_leastTerms_40 : decode cX11_leastTerms 40 = .ok (.ifCond .ne 7, 3) := by decide +kernel
theorem d_X11_leastTerms_43 : decode cX11_leastTerms 43 = .ok (.iload_n 0, 1) := by decide +kernel
theorem d_X11_leastTerms_44 : decode cX11_leastTerms 44 = .ok (.goto 4, 3) := by decide +kernel
theorem d_X11_leastTerms_47 : decode cX11_leastTerms 47 = .ok (.iload_n 1, 1) := by decide +kernel
theorem d_X11_leastTerms_48 : decode cX11_leastTerms 48 = .ok (.istore 5, 2) := by decide +kernel
theorem d_X11_leastTerms_50 : decode cX11_leastTerms 50 = .ok (.iload_n 3, 1) := by decide +kernel
theorem d_X11_leastTerms_51 : decode cX11_leastTerms 51 = .ok (.ifCond .ne 8, 3) := by decide +kernel
theorem d_X11_leastTerms_54 : decode cX11_leastTerms 54 = .ok (.iload 5, 2) := by decide +kernel
theorem d_X11_leastTerms_56 : decode cX11_leastTerms 56 = .ok (.goto 7, 3) := by decide +kernel
theorem d_X11_leastTerms_59 : decode cX11_leastTerms 59 = .ok (.iload 5, 2) := by decide +kernel
theorem d_X11_leastTerms_61 : decode cX11_leastTerms 61 = .ok (.iload_n 3, 1) := by decide +kernel
theorem d_X11_leastTerms_62 : decode cX11_leastTerms 62 = .ok (.idiv, 1) := by decide +kernel
theorem d_X11_leastTerms_63 : decode cX11_leastTerms 63 = .ok (.ireturn, 1) := by decide +kernel
theorem d_X8_bestSet_0 : decode cX8_bestSet 0 = .ok (.aload_n 0, 1) := by decide +kernel
theorem d_X8_bestSet_1 : decode cX8_bestSet 1 = .ok (.getfield 25, 3) := by decide +kernel
theorem d_X8_bestSet_4 : decode cX8_bestSet 4 = .ok (.ireturn, 1) := by decide +kernel
theorem d_X11_thick_0 : decode cX11_thick 0 = .ok (.aload_n 0, 1) := by decide +kernel
theorem d_X11_thick_1 : decode cX11_thick 1 = .ok (.getfield 10, 3) := by decide +kernel
theorem d_X11_thick_4 : decode cX11_thick 4 = .ok (.getfield 184, 3) := by decide +kernel
theorem d_X11_thick_7 : decode cX11_thick 7 = .ok (.iconst 2, 1) := by decide +kernel
theorem d_X11_thick_8 : decode cX11_thick 8 = .ok (.if_icmp .lt 12, 3) := by decide +kernel
theorem d_X11_thick_11 : decode cX11_thick 11 = .ok (.iload_n 1, 1) := by decide +kernel
theorem d_X11_thick_12 : decode cX11_thick 12 = .ok (.ifCond .lt 8, 3) := by decide +kernel
theorem d_X11_thick_15 : decode cX11_thick 15 = .ok (.iload_n 1, 1) := by decide +kernel
theorem d_X11_thick_16 : decode cX11_thick 16 = .ok (.iconst 2, 1) := by decide +kernel
theorem d_X11_thick_17 : decode cX11_thick 17 = .ok (.if_icmp .le 5, 3) := by decide +kernel
theorem d_X11_thick_20 : decode cX11_thick 20 = .ok (.iconst (-1), 1) := by decide +kernel
theorem d_X11_thick_21 : decode cX11_thick 21 = .ok (.ireturn, 1) := by decide +kernel
theorem d_X11_thick_22 : decode cX11_thick 22 = .ok (.aload_n 0, 1) := by decide +kernel
theorem d_X11_thick_23 : decode cX11_thick 23 = .ok (.getfield 51, 3) := by decide +kernel
theorem d_X11_thick_26 : decode cX11_thick 26 = .ok (.invokevirtual 270, 3) := by decide +kernel
theorem d_X11_thick_29 : decode cX11_thick 29 = .ok (.iload_n 1, 1) := by decide +kernel
theorem d_X11_thick_30 : decode cX11_thick 30 = .ok (.iconst 2, 1) := by decide +kernel
theorem d_X11_thick_31 : decode cX11_thick 31 = .ok (.if_icmp .ne 11, 3) := by decide +kernel
theorem d_X11_thick_34 : decode cX11_thick 34 = .ok (.aload_n 0, 1) := by decide +kernel
theorem d_X11_thick_35 : decode cX11_thick 35 = .ok (.getfield 51, 3) := by decide +kernel
theorem d_X11_thick_38 : decode cX11_thick 38 = .ok (.invokevirtual 273, 3) := by decide +kernel
theorem d_X11_thick_41 : decode cX11_thick 41 = .ok (.ireturn, 1) := by decide +kernel
theorem d_X11_thick_42 : decode cX11_thick 42 = .ok (.aload_n 0, 1) := by decide +kernel
theorem d_X11_thick_43 : decode cX11_thick 43 = .ok (.getfield 51, 3) := by decide +kernel
theorem d_X11_thick_46 : decode cX11_thick 46 = .ok (.invokevirtual 276, 3) := by decide +kernel
theorem d_X11_thick_49 : decode cX11_thick 49 = .ok (.aload_n 0, 1) := by decide +kernel
theorem d_X11_thick_50 : decode cX11_thick 50 = .ok (.getfield 51, 3) := by decide +kernel
theorem d_X11_thick_53 : decode cX11_thick 53 = .ok (.invokevirtual 279, 3) := by decide +kernel
theorem d_X11_thick_56 : decode cX11_thick 56 = .ok (.iload_n 1, 1) := by decide +kernel
theorem d_X11_thick_57 : decode cX11_thick 57 = .ok (.invokestatic 282, 3) := by decide +kernel
theorem d_X11_thick_60 : decode cX11_thick 60 = .ok (.ireturn, 1) := by decide +kernel
theorem d_X8_findCrowded_0 : decode cX8_findCrowded 0 = .ok (.aload_n 0, 1) := by decide +kernel
theorem d_X8_findCrowded_1 : decode cX8_findCrowded 1 = .ok (.invokevirtual 71, 3) := by decide +kernel
theorem d_X8_findCrowded_4 : decode cX8_findCrowded 4 = .ok (.iconst 0, 1) := by decide +kernel
theorem d_X8_findCrowded_5 : decode cX8_findCrowded 5 = .ok (.istore_n 2, 1) := by decide +kernel
theorem d_X8_findCrowded_6 : decode cX8_findCrowded 6 = .ok (.iconst 0, 1) := by decide +kernel
theorem d_X8_findCrowded_7 : decode cX8_findCrowded 7 = .ok (.istore_n 3, 1) := by decide +kernel
theorem d_X8_findCrowded_8 : decode cX8_findCrowded 8 = .ok (.iconst 0, 1) := by decide +kernel
theorem d_X8_findCrowded_9 : decode cX8_findCrowded 9 = .ok (.istore 4, 2) := by decide +kernel
theorem d_X8_findCrowded_11 : decode cX8_findCrowded 11 = .ok (.iconst 3, 1) := by decide +kernel
theorem d_X8_findCrowded_12 : decode cX8_findCrowded 12 = .ok (.istore 5, 2) := by decide +kernel
theorem d_X8_findCrowded_14 : decode cX8_findCrowded 14 = .ok (.iload 5, 2) := by decide +kernel
theorem d_X8_findCrowded_16 : decode cX8_findCrowded 16 = .ok (.aload_n 0, 1) := by decide +kernel
theorem d_X8_findCrowded_17 : decode cX8_findCrowded 17 = .ok (.getfield 21, 3) := by decide +kernel
theorem d_X8_findCrowded_20 : decode cX8_findCrowded 20 = .ok (.invokevirtual 57, 3) := by decide +kernel
theorem d_X8_findCrowded_23 : decode cX8_findCrowded 23 = .ok (.if_icmp .gt 70, 3) := by decide +kernel
theorem d_X8_findCrowded_26 : decode cX8_findCrowded 26 = .ok (.iload 5, 2) := by decide +kernel
theorem d_X8_findCrowded_28 : decode cX8_findCrowded 28 = .ok (.invokestatic 65, 3) := by decide +kernel
theorem d_X8_findCrowded_31 : decode cX8_findCrowded 31 = .ok (.istore 6, 2) := by decide +kernel
theorem d_X8_findCrowded_33 : decode cX8_findCrowded 33 = .ok (.iload 6, 2) := by decide +kernel
theorem d_X8_findCrowded_35 : decode cX8_findCrowded 35 = .ok (.iconst 2, 1) := by decide +kernel
theorem d_X8_findCrowded_36 : decode cX8_findCrowded 36 = .ok (.if_icmp .ge 6, 3) := by decide +kernel
theorem d_X8_findCrowded_39 : decode cX8_findCrowded 39 = .ok (.goto 48, 3) := by decide +kernel
theorem d_X8_findCrowded_42 : decode cX8_findCrowded 42 = .ok (.aload_n 0, 1) := by decide +kernel
theorem d_X8_findCrowded_43 : decode cX8_findCrowded 43 = .ok (.getfield 9, 3) := by decide +kernel
theorem d_X8_findCrowded_46 : decode cX8_findCrowded 46 = .ok (.iload 5, 2) := by decide +kernel
theorem d_X8_findCrowded_48 : decode cX8_findCrowded 48 = .ok (.iaload, 1) := by decide +kernel
theorem d_X8_findCrowded_49 : decode cX8_findCrowded 49 = .ok (.iload_n 1, 1) := by decide +kernel
theorem d_X8_findCrowded_50 : decode cX8_findCrowded 50 = .ok (.iload 6, 2) := by decide +kernel
theorem d_X8_findCrowded_52 : decode cX8_findCrowded 52 = .ok (.iconst 1, 1) := by decide +kernel
theorem d_X8_findCrowded_53 : decode cX8_findCrowded 53 = .ok (.isub, 1) := by decide +kernel
theorem d_X8_findCrowded_54 : decode cX8_findCrowded 54 = .ok (.imul, 1) := by decide +kernel
theorem d_X8_findCrowded_55 : decode cX8_findCrowded 55 = .ok (.isub, 1) := by decide +kernel
theorem d_X8_findCrowded_56 : decode cX8_findCrowded 56 = .ok (.istore 7, 2) := by decide +kernel
theorem d_X8_findCrowded_58 : decode cX8_findCrowded 58 = .ok (.iload 7, 2) := by decide +kernel
theorem d_X8_findCrowded_60 : decode cX8_findCrowded 60 = .ok (.iload_n 3, 1) := by decide +kernel
theorem d_X8_findCrowded_61 : decode cX8_findCrowded 61 = .ok (.if_icmp .gt 16, 3) := by decide +kernel
theorem d_X8_findCrowded_64 : decode cX8_findCrowded 64 = .ok (.iload 7, 2) := by decide +kernel
theorem d_X8_findCrowded_66 : decode cX8_findCrowded 66 = .ok (.iload_n 3, 1) := by decide +kernel
theorem d_X8_findCrowded_67 : decode cX8_findCrowded 67 = .ok (.if_icmp .ne 20, 3) := by decide +kernel
theorem d_X8_findCrowded_70 : decode cX8_findCrowded 70 = .ok (.iload 6, 2) := by decide +kernel
theorem d_X8_findCrowded_72 : decode cX8_findCrowded 72 = .ok (.iload 4, 2) := by decide +kernel
theorem d_X8_findCrowded_74 : decode cX8_findCrowded 74 = .ok (.if_icmp .ge 13, 3) := by decide +kernel
theorem d_X8_findCrowded_77 : decode cX8_findCrowded 77 = .ok (.iload 5, 2) := by decide +kernel
theorem d_X8_findCrowded_79 : decode cX8_findCrowded 79 = .ok (.istore_n 2, 1) := by decide +kernel
theorem d_X8_findCrowded_80 : decode cX8_findCrowded 80 = .ok (.iload 7, 2) := by decide +kernel
theorem d_X8_findCrowded_82 : decode cX8_findCrowded 82 = .ok (.istore_n 3, 1) := by decide +kernel
theorem d_X8_findCrowded_83 : decode cX8_findCrowded 83 = .ok (.iload 6, 2) := by decide +kernel
theorem d_X8_findCrowded_85 : decode cX8_findCrowded 85 = .ok (.istore 4, 2) := by decide +kernel
theorem d_X8_findCrowded_87 : decode cX8_findCrowded 87 = .ok (.iinc 5 1, 3) := by decide +kernel
theorem d_X8_findCrowded_90 : decode cX8_findCrowded 90 = .ok (.goto (-76), 3) := by decide +kernel
theorem d_X8_findCrowded_93 : decode cX8_findCrowded 93 = .ok (.iload_n 2, 1) := by decide +kernel
theorem d_X8_findCrowded_94 : decode cX8_findCrowded 94 = .ok (.ireturn, 1) := by decide +kernel
theorem d_X11_crowded_0 : decode cX11_crowded 0 = .ok (.iload_n 1, 1) := by decide +kernel
theorem d_X11_crowded_1 : decode cX11_crowded 1 = .ok (.ifCond .lt 9, 3) := by decide +kernel
theorem d_X11_crowded_4 : decode cX11_crowded 4 = .ok (.iload_n 1, 1) := by decide +kernel
theorem d_X11_crowded_5 : decode cX11_crowded 5 = .ok (.bipush 24, 2) := by decide +kernel
theorem d_X11_crowded_7 : decode cX11_crowded 7 = .ok (.if_icmp .le 7, 3) := by decide +kernel
theorem d_X11_crowded_10 : decode cX11_crowded 10 = .ok (.iconst (-1), 1) := by decide +kernel
theorem d_X11_crowded_11 : decode cX11_crowded 11 = .ok (.goto 11, 3) := by decide +kernel
theorem d_X11_crowded_14 : decode cX11_crowded 14 = .ok (.aload_n 0, 1) := by decide +kernel
theorem d_X11_crowded_15 : decode cX11_crowded 15 = .ok (.getfield 51, 3) := by decide +kernel
theorem d_X11_crowded_18 : decode cX11_crowded 18 = .ok (.iload_n 1, 1) := by decide +kernel
theorem d_X11_crowded_19 : decode cX11_crowded 19 = .ok (.invokevirtual 286, 3) := by decide +kernel
theorem d_X11_crowded_22 : decode cX11_crowded 22 = .ok (.ireturn, 1) := by decide +kernel
theorem d_X8_innerOf_0 : decode cX8_innerOf 0 = .ok (.iload_n 1, 1) := by decide +kernel
theorem d_X8_innerOf_1 : decode cX8_innerOf 1 = .ok (.ifCond .lt 10, 3) := by decide +kernel
theorem d_X8_innerOf_4 : decode cX8_innerOf 4 = .ok (.iload_n 1, 1) := by decide +kernel
theorem d_X8_innerOf_5 : decode cX8_innerOf 5 = .ok (.sipush 1024, 3) := by decide +kernel
theorem d_X8_innerOf_8 : decode cX8_innerOf 8 = .ok (.if_icmp .lt 7, 3) := by decide +kernel
theorem d_X8_innerOf_11 : decode cX8_innerOf 11 = .ok (.iconst 0, 1) := by decide +kernel
theorem d_X8_innerOf_12 : decode cX8_innerOf 12 = .ok (.goto 9, 3) := by decide +kernel
theorem d_X8_innerOf_15 : decode cX8_innerOf 15 = .ok (.aload_n 0, 1) := by decide +kernel
theorem d_X8_innerOf_16 : decode cX8_innerOf 16 = .ok (.getfield 9, 3) := by decide +kernel
theorem d_X8_innerOf_19 : decode cX8_innerOf 19 = .ok (.iload_n 1, 1) := by decide +kernel
theorem d_X8_innerOf_20 : decode cX8_innerOf 20 = .ok (.iaload, 1) := by decide +kernel
theorem d_X8_innerOf_21 : decode cX8_innerOf 21 = .ok (.ireturn, 1) := by decide +kernel
theorem d_X7_mostInside_0 : decode cX7_mostInside 0 = .ok (.iload_n 1, 1) := by decide +kernel
theorem d_X7_mostInside_1 : decode cX7_mostInside 1 = .ok (.iload_n 1, 1) := by decide +kernel
theorem d_X7_mostInside_2 : decode cX7_mostInside 2 = .ok (.ineg, 1) := by decide +kernel
theorem d_X7_mostInside_3 : decode cX7_mostInside 3 = .ok (.iand, 1) := by decide +kernel
theorem d_X7_mostInside_4 : decode cX7_mostInside 4 = .ok (.istore_n 2, 1) := by decide +kernel
theorem d_X7_mostInside_5 : decode cX7_mostInside 5 = .ok (.iload_n 1, 1) := by decide +kernel
theorem d_X7_mostInside_6 : decode cX7_mostInside 6 = .ok (.iload_n 2, 1) := by decide +kernel
theorem d_X7_mostInside_7 : decode cX7_mostInside 7 = .ok (.ixor, 1) := by decide +kernel
theorem d_X7_mostInside_8 : decode cX7_mostInside 8 = .ok (.istore_n 3, 1) := by decide +kernel
theorem d_X7_mostInside_9 : decode cX7_mostInside 9 = .ok (.iconst (-1), 1) := by decide +kernel
theorem d_X7_mostInside_10 : decode cX7_mostInside 10 = .ok (.istore 4, 2) := by decide +kernel
theorem d_X7_mostInside_12 : decode cX7_mostInside 12 = .ok (.iload_n 3, 1) := by decide +kernel
theorem d_X7_mostInside_13 : decode cX7_mostInside 13 = .ok (.istore 5, 2) := by decide +kernel
theorem d_X7_mostInside_15 : decode cX7_mostInside 15 = .ok (.iload 5, 2) := by decide +kernel
theorem d_X7_mostInside_17 : decode cX7_mostInside 17 = .ok (.ifCond .le 51, 3) := by decide +kernel
theorem d_X7_mostInside_20 : decode cX7_mostInside 20 = .ok (.aload_n 0, 1) := by decide +kernel
theorem d_X7_mostInside_21 : decode cX7_mostInside 21 = .ok (.getfield 9, 3) := by decide +kernel
theorem d_X7_mostInside_24 : decode cX7_mostInside 24 = .ok (.iload 5, 2) := by decide +kernel
theorem d_X7_mostInside_26 : decode cX7_mostInside 26 = .ok (.iaload, 1) := by decide +kernel
theorem d_X7_mostInside_27 : decode cX7_mostInside 27 = .ok (.iconst (-1), 1) := by decide +kernel
theorem d_X7_mostInside_28 : decode cX7_mostInside 28 = .ok (.if_icmp .eq 29, 3) := by decide +kernel
theorem d_X7_mostInside_31 : decode cX7_mostInside 31 = .ok (.iload 4, 2) := by decide +kernel
theorem d_X7_mostInside_33 : decode cX7_mostInside 33 = .ok (.aload_n 0, 1) := by decide +kernel
theorem d_X7_mostInside_34 : decode cX7_mostInside 34 = .ok (.getfield 9, 3) := by decide +kernel
theorem d_X7_mostInside_37 : decode cX7_mostInside 37 = .ok (.iload 5, 2) := by decide +kernel
theorem d_X7_mostInside_39 : decode cX7_mostInside 39 = .ok (.iaload, 1) := by decide +kernel
theorem d_X7_mostInside_40 : decode cX7_mostInside 40 = .ok (.aload_n 0, 1) := by decide +kernel
theorem d_X7_mostInside_41 : decode cX7_mostInside 41 = .ok (.getfield 22, 3) := by decide +kernel
theorem d_X7_mostInside_44 : decode cX7_mostInside 44 = .ok (.iload_n 1, 1) := by decide +kernel
theorem d_X7_mostInside_45 : decode cX7_mostInside 45 = .ok (.iload 5, 2) := by decide +kernel
theorem d_X7_mostInside_47 : decode cX7_mostInside 47 = .ok (.ixor, 1) := by decide +kernel
theorem d_X7_mostInside_48 : decode cX7_mostInside 48 = .ok (.invokevirtual 44, 3) := by decide +kernel
theorem d_X7_mostInside_51 : decode cX7_mostInside 51 = .ok (.iadd, 1) := by decide +kernel
theorem d_X7_mostInside_52 : decode cX7_mostInside 52 = .ok (.invokestatic 58, 3) := by decide +kernel
theorem d_X7_mostInside_55 : decode cX7_mostInside 55 = .ok (.istore 4, 2) := by decide +kernel
theorem d_X7_mostInside_57 : decode cX7_mostInside 57 = .ok (.iload 5, 2) := by decide +kernel
theorem d_X7_mostInside_59 : decode cX7_mostInside 59 = .ok (.iconst 1, 1) := by decide +kernel
theorem d_X7_mostInside_60 : decode cX7_mostInside 60 = .ok (.isub, 1) := by decide +kernel
theorem d_X7_mostInside_61 : decode cX7_mostInside 61 = .ok (.iload_n 3, 1) := by decide +kernel
theorem d_X7_mostInside_62 : decode cX7_mostInside 62 = .ok (.iand, 1) := by decide +kernel
theorem d_X7_mostInside_63 : decode cX7_mostInside 63 = .ok (.istore 5, 2) := by decide +kernel
theorem d_X7_mostInside_65 : decode cX7_mostInside 65 = .ok (.goto (-50), 3) := by decide +kernel
theorem d_X7_mostInside_68 : decode cX7_mostInside 68 = .ok (.iload 4, 2) := by decide +kernel
theorem d_X7_mostInside_70 : decode cX7_mostInside 70 = .ok (.ireturn, 1) := by decide +kernel
theorem d_X8_leastLoad_0 : decode cX8_leastLoad 0 = .ok (.aload_n 0, 1) := by decide +kernel
theorem d_X8_leastLoad_1 : decode cX8_leastLoad 1 = .ok (.iconst 0, 1) := by decide +kernel
theorem d_X8_leastLoad_2 : decode cX8_leastLoad 2 = .ok (.invokevirtual 73, 3) := by decide +kernel
theorem d_X8_leastLoad_5 : decode cX8_leastLoad 5 = .ok (.ireturn, 1) := by decide +kernel
theorem d_X11_even_0 : decode cX11_even 0 = .ok (.aload_n 0, 1) := by decide +kernel
theorem d_X11_even_1 : decode cX11_even 1 = .ok (.getfield 51, 3) := by decide +kernel
theorem d_X11_even_4 : decode cX11_even 4 = .ok (.invokevirtual 297, 3) := by decide +kernel
theorem d_X11_even_7 : decode cX11_even 7 = .ok (.ireturn, 1) := by decide +kernel
theorem d_X6_enters_0 : decode cX6_enters 0 = .ok (.iload_n 2, 1) := by decide +kernel
theorem d_X6_enters_1 : decode cX6_enters 1 = .ok (.aload_n 0, 1) := by decide +kernel
theorem d_X6_enters_2 : decode cX6_enters 2 = .ok (.getfield 15, 3) := by decide +kernel
theorem d_X6_enters_5 : decode cX6_enters 5 = .ok (.iload_n 1, 1) := by decide +kernel
theorem d_X6_enters_6 : decode cX6_enters 6 = .ok (.invokevirtual 47, 3) := by decide +kernel
theorem d_X6_enters_9 : decode cX6_enters 9 = .ok (.ishr, 1) := by decide +kernel
theorem d_X6_enters_10 : decode cX6_enters 10 = .ok (.iconst 1, 1) := by decide +kernel
theorem d_X6_enters_11 : decode cX6_enters 11 = .ok (.iand, 1) := by decide +kernel
theorem d_X6_enters_12 : decode cX6_enters 12 = .ok (.ifCond .eq 22, 3) := by decide +kernel
theorem d_X6_enters_15 : decode cX6_enters 15 = .ok (.iload_n 2, 1) := by decide +kernel
theorem d_X6_enters_16 : decode cX6_enters 16 = .ok (.aload_n 0, 1) := by decide +kernel
theorem d_X6_enters_17 : decode cX6_enters 17 = .ok (.getfield 15, 3) := by decide +kernel
theorem d_X6_enters_20 : decode cX6_enters 20 = .ok (.iload_n 1, 1) := by decide +kernel
theorem d_X6_enters_21 : decode cX6_enters 21 = .ok (.invokevirtual 51, 3) := by decide +kernel
theorem d_X6_enters_24 : decode cX6_enters 24 = .ok (.ishr, 1) := by decide +kernel
theorem d_X6_enters_25 : decode cX6_enters 25 = .ok (.iconst 1, 1) := by decide +kernel
theorem d_X6_enters_26 : decode cX6_enters 26 = .ok (.iand, 1) := by decide +kernel
theorem d_X6_enters_27 : decode cX6_enters 27 = .ok (.ifCond .ne 7, 3) := by decide +kernel
theorem d_X6_enters_30 : decode cX6_enters 30 = .ok (.iconst 1, 1) := by decide +kernel
theorem d_X6_enters_31 : decode cX6_enters 31 = .ok (.goto 4, 3) := by decide +kernel
theorem d_X6_enters_34 : decode cX6_enters 34 = .ok (.iconst 0, 1) := by decide +kernel
theorem d_X6_enters_35 : decode cX6_enters 35 = .ok (.ireturn, 1) := by decide +kernel
theorem d_X6_change_0 : decode cX6_change 0 = .ok (.iconst 1, 1) := by decide +kernel
theorem d_X6_change_1 : decode cX6_change 1 = .ok (.istore_n 3, 1) := by decide +kernel
theorem d_X6_change_2 : decode cX6_change 2 = .ok (.iload_n 3, 1) := by decide +kernel
theorem d_X6_change_3 : decode cX6_change 3 = .ok (.aload_n 0, 1) := by decide +kernel
theorem d_X6_change_4 : decode cX6_change 4 = .ok (.getfield 15, 3) := by decide +kernel
theorem d_X6_change_7 : decode cX6_change 7 = .ok (.invokevirtual 19, 3) := by decide +kernel
theorem d_X6_change_10 : decode cX6_change 10 = .ok (.if_icmp .gt 28, 3) := by decide +kernel
theorem d_X6_change_13 : decode cX6_change 13 = .ok (.aload_n 0, 1) := by decide +kernel
theorem d_X6_change_14 : decode cX6_change 14 = .ok (.iload_n 1, 1) := by decide +kernel
theorem d_X6_change_15 : decode cX6_change 15 = .ok (.iload_n 3, 1) := by decide +kernel
theorem d_X6_change_16 : decode cX6_change 16 = .ok (.invokevirtual 43, 3) := by decide +kernel
theorem d_X6_change_19 : decode cX6_change 19 = .ok (.ifCond .eq 13, 3) := by decide +kernel
theorem d_X6_change_22 : decode cX6_change 22 = .ok (.aload_n 0, 1) := by decide +kernel
theorem d_X6_change_23 : decode cX6_change 23 = .ok (.getfield 9, 3) := by decide +kernel
theorem d_X6_change_26 : decode cX6_change 26 = .ok (.iload_n 3, 1) := by decide +kernel
theorem d_X6_change_27 : decode cX6_change 27 = .ok (.dup2, 1) := by decide +kernel
theorem d_X6_change_28 : decode cX6_change 28 = .ok (.iaload, 1) := by decide +kernel
theorem d_X6_change_29 : decode cX6_change 29 = .ok (.iload_n 2, 1) := by decide +kernel
theorem d_X6_change_30 : decode cX6_change 30 = .ok (.iadd, 1) := by decide +kernel
theorem d_X6_change_31 : decode cX6_change 31 = .ok (.iastore, 1) := by decide +kernel
theorem d_X6_change_32 : decode cX6_change 32 = .ok (.iinc 3 1, 3) := by decide +kernel
theorem d_X6_change_35 : decode cX6_change 35 = .ok (.goto (-33), 3) := by decide +kernel
theorem d_X6_change_38 : decode cX6_change 38 = .ok (.return_, 1) := by decide +kernel
theorem d_X6_countFrom_0 : decode cX6_countFrom 0 = .ok (.iconst 0, 1) := by decide +kernel
theorem d_X6_countFrom_1 : decode cX6_countFrom 1 = .ok (.istore_n 2, 1) := by decide +kernel
theorem d_X6_countFrom_2 : decode cX6_countFrom 2 = .ok (.iload_n 2, 1) := by decide +kernel
theorem d_X6_countFrom_3 : decode cX6_countFrom 3 = .ok (.aload_n 0, 1) := by decide +kernel
theorem d_X6_countFrom_4 : decode cX6_countFrom 4 = .ok (.getfield 15, 3) := by decide +kernel
theorem d_X6_countFrom_7 : decode cX6_countFrom 7 = .ok (.invokevirtual 19, 3) := by decide +kernel
theorem d_X6_countFrom_10 : decode cX6_countFrom 10 = .ok (.if_icmp .gt 16, 3) := by decide +kernel
theorem d_X6_countFrom_13 : decode cX6_countFrom 13 = .ok (.aload_n 0, 1) := by decide +kernel
theorem d_X6_countFrom_14 : decode cX6_countFrom 14 = .ok (.getfield 9, 3) := by decide +kernel
theorem d_X6_countFrom_17 : decode cX6_countFrom 17 = .ok (.iload_n 2, 1) := by decide +kernel
theorem d_X6_countFrom_18 : decode cX6_countFrom 18 = .ok (.iconst 0, 1) := by decide +kernel
theorem d_X6_countFrom_19 : decode cX6_countFrom 19 = .ok (.iastore, 1) := by decide +kernel
theorem d_X6_countFrom_20 : decode cX6_countFrom 20 = .ok (.iinc 2 1, 3) := by decide +kernel
theorem d_X6_countFrom_23 : decode cX6_countFrom 23 = .ok (.goto (-21), 3) := by decide +kernel
theorem d_X6_countFrom_26 : decode cX6_countFrom 26 = .ok (.iconst 0, 1) := by decide +kernel
theorem d_X6_countFrom_27 : decode cX6_countFrom 27 = .ok (.istore_n 2, 1) := by decide +kernel
theorem d_X6_countFrom_28 : decode cX6_countFrom 28 = .ok (.iload_n 2, 1) := by decide +kernel
theorem d_X6_countFrom_29 : decode cX6_countFrom 29 = .ok (.aload_n 0, 1) := by decide +kernel
theorem d_X6_countFrom_30 : decode cX6_countFrom 30 = .ok (.getfield 15, 3) := by decide +kernel
theorem d_X6_countFrom_33 : decode cX6_countFrom 33 = .ok (.getfield 25, 3) := by decide +kernel
theorem d_X6_countFrom_36 : decode cX6_countFrom 36 = .ok (.if_icmp .ge 26, 3) := by decide +kernel
theorem d_X6_countFrom_39 : decode cX6_countFrom 39 = .ok (.aload_n 0, 1) := by decide +kernel
theorem d_X6_countFrom_40 : decode cX6_countFrom 40 = .ok (.getfield 15, 3) := by decide +kernel
theorem d_X6_countFrom_43 : decode cX6_countFrom 43 = .ok (.iload_n 2, 1) := by decide +kernel
theorem d_X6_countFrom_44 : decode cX6_countFrom 44 = .ok (.invokevirtual 29, 3) := by decide +kernel
theorem d_X6_countFrom_47 : decode cX6_countFrom 47 = .ok (.ifCond .eq 9, 3) := by decide +kernel
theorem d_X6_countFrom_50 : decode cX6_countFrom 50 = .ok (.aload_n 0, 1) := by decide +kernel
theorem d_X6_countFrom_51 : decode cX6_countFrom 51 = .ok (.iload_n 2, 1) := by decide +kernel
theorem d_X6_countFrom_52 : decode cX6_countFrom 52 = .ok (.iconst 1, 1) := by decide +kernel
theorem d_X6_countFrom_53 : decode cX6_countFrom 53 = .ok (.invokevirtual 33, 3) := by decide +kernel
theorem d_X6_countFrom_56 : decode cX6_countFrom 56 = .ok (.iinc 2 1, 3) := by decide +kernel
theorem d_X6_countFrom_59 : decode cX6_countFrom 59 = .ok (.goto (-31), 3) := by decide +kernel
theorem d_X6_countFrom_62 : decode cX6_countFrom 62 = .ok (.bipush 24, 2) := by decide +kernel
theorem d_X6_countFrom_64 : decode cX6_countFrom 64 = .ok (.istore_n 2, 1) := by decide +kernel
theorem d_X6_countFrom_65 : decode cX6_countFrom 65 = .ok (.iconst 1, 1) := by decide +kernel
theorem d_X6_countFrom_66 : decode cX6_countFrom 66 = .ok (.istore_n 3, 1) := by decide +kernel
theorem d_X6_countFrom_67 : decode cX6_countFrom 67 = .ok (.iload_n 3, 1) := by decide +kernel
theorem d_X6_countFrom_68 : decode cX6_countFrom 68 = .ok (.aload_n 0, 1) := by decide +kernel
theorem d_X6_countFrom_69 : decode cX6_countFrom 69 = .ok (.getfield 15, 3) := by decide +kernel
theorem d_X6_countFrom_72 : decode cX6_countFrom 72 = .ok (.invokevirtual 19, 3) := by decide +kernel
theorem d_X6_countFrom_75 : decode cX6_countFrom 75 = .ok (.if_icmp .gt 28, 3) := by decide +kernel
theorem d_X6_countFrom_78 : decode cX6_countFrom 78 = .ok (.iload_n 3, 1) := by decide +kernel
theorem d_X6_countFrom_79 : decode cX6_countFrom 79 = .ok (.iload_n 1, 1) := by decide +kernel
theorem d_X6_countFrom_80 : decode cX6_countFrom 80 = .ok (.ishr, 1) := by decide +kernel
theorem d_X6_countFrom_81 : decode cX6_countFrom 81 = .ok (.iconst 1, 1) := by decide +kernel
theorem d_X6_countFrom_82 : decode cX6_countFrom 82 = .ok (.iand, 1) := by decide +kernel
theorem d_X6_countFrom_83 : decode cX6_countFrom 83 = .ok (.ifCond .ne 14, 3) := by decide +kernel
theorem d_X6_countFrom_86 : decode cX6_countFrom 86 = .ok (.iload_n 2, 1) := by decide +kernel
theorem d_X6_countFrom_87 : decode cX6_countFrom 87 = .ok (.aload_n 0, 1) := by decide +kernel
theorem d_X6_countFrom_88 : decode cX6_countFrom 88 = .ok (.getfield 9, 3) := by decide +kernel
theorem d_X6_countFrom_91 : decode cX6_countFrom 91 = .ok (.iload_n 3, 1) := by decide +kernel
theorem d_X6_countFrom_92 : decode cX6_countFrom 92 = .ok (.iaload, 1) := by decide +kernel
theorem d_X6_countFrom_93 : decode cX6_countFrom 93 = .ok (.invokestatic 37, 3) := by decide +kernel
theorem d_X6_countFrom_96 : decode cX6_countFrom 96 = .ok (.istore_n 2, 1) := by decide +kernel
theorem d_X6_countFrom_97 : decode cX6_countFrom 97 = .ok (.iinc 3 1, 3) := by decide +kernel
theorem d_X6_countFrom_100 : decode cX6_countFrom 100 = .ok (.goto (-33), 3) := by decide +kernel
theorem d_X6_countFrom_103 : decode cX6_countFrom 103 = .ok (.iload_n 2, 1) := by decide +kernel
theorem d_X6_countFrom_104 : decode cX6_countFrom 104 = .ok (.ireturn, 1) := by decide +kernel
theorem d_X11_rooted_0 : decode cX11_rooted 0 = .ok (.aload_n 0, 1) := by decide +kernel
theorem d_X11_rooted_1 : decode cX11_rooted 1 = .ok (.getfield 10, 3) := by decide +kernel
theorem d_X11_rooted_4 : decode cX11_rooted 4 = .ok (.getfield 184, 3) := by decide +kernel
theorem d_X11_rooted_7 : decode cX11_rooted 7 = .ok (.iconst 2, 1) := by decide +kernel
theorem d_X11_rooted_8 : decode cX11_rooted 8 = .ok (.if_icmp .lt 18, 3) := by decide +kernel
theorem d_X11_rooted_11 : decode cX11_rooted 11 = .ok (.iload_n 1, 1) := by decide +kernel
theorem d_X11_rooted_12 : decode cX11_rooted 12 = .ok (.ifCond .lt 14, 3) := by decide +kernel
theorem d_X11_rooted_15 : decode cX11_rooted 15 = .ok (.iload_n 1, 1) := by decide +kernel
theorem d_X11_rooted_16 : decode cX11_rooted 16 = .ok (.aload_n 0, 1) := by decide +kernel
theorem d_X11_rooted_17 : decode cX11_rooted 17 = .ok (.getfield 10, 3) := by decide +kernel
theorem d_X11_rooted_20 : decode cX11_rooted 20 = .ok (.getfield 184, 3) := by decide +kernel
theorem d_X11_rooted_23 : decode cX11_rooted 23 = .ok (.if_icmp .lt 5, 3) := by decide +kernel
theorem d_X11_rooted_26 : decode cX11_rooted 26 = .ok (.iconst (-1), 1) := by decide +kernel
theorem d_X11_rooted_27 : decode cX11_rooted 27 = .ok (.ireturn, 1) := by decide +kernel
theorem d_X11_rooted_28 : decode cX11_rooted 28 = .ok (.aload_n 0, 1) := by decide +kernel
theorem d_X11_rooted_29 : decode cX11_rooted 29 = .ok (.getfield 74, 3) := by decide +kernel
theorem d_X11_rooted_32 : decode cX11_rooted 32 = .ok (.iload_n 1, 1) := by decide +kernel
theorem d_X11_rooted_33 : decode cX11_rooted 33 = .ok (.invokevirtual 300, 3) := by decide +kernel
theorem d_X11_rooted_36 : decode cX11_rooted 36 = .ok (.ireturn, 1) := by decide +kernel
theorem d_X6_canGo_0 : decode cX6_canGo 0 = .ok (.iconst 1, 1) := by decide +kernel
theorem d_X6_canGo_1 : decode cX6_canGo 1 = .ok (.istore 4, 2) := by decide +kernel
theorem d_X6_canGo_3 : decode cX6_canGo 3 = .ok (.iload 4, 2) := by decide +kernel
theorem d_X6_canGo_5 : decode cX6_canGo 5 = .ok (.aload_n 0, 1) := by decide +kernel
theorem d_X6_canGo_6 : decode cX6_canGo 6 = .ok (.getfield 15, 3) := by decide +kernel
theorem d_X6_canGo_9 : decode cX6_canGo 9 = .ok (.invokevirtual 19, 3) := by decide +kernel
theorem d_X6_canGo_12 : decode cX6_canGo 12 = .ok (.if_icmp .gt 41, 3) := by decide +kernel
theorem d_X6_canGo_15 : decode cX6_canGo 15 = .ok (.iload 4, 2) := by decide +kernel
theorem d_X6_canGo_17 : decode cX6_canGo 17 = .ok (.iload_n 1, 1) := by decide +kernel
theorem d_X6_canGo_18 : decode cX6_canGo 18 = .ok (.ishr, 1) := by decide +kernel
theorem d_X6_canGo_19 : decode cX6_canGo 19 = .ok (.iconst 1, 1) := by decide +kernel
theorem d_X6_canGo_20 : decode cX6_canGo 20 = .ok (.iand, 1) := by decide +kernel
theorem d_X6_canGo_21 : decode cX6_canGo 21 = .ok (.ifCond .ne 26, 3) := by decide +kernel
theorem d_X6_canGo_24 : decode cX6_canGo 24 = .ok (.aload_n 0, 1) := by decide +kernel
theorem d_X6_canGo_25 : decode cX6_canGo 25 = .ok (.iload_n 2, 1) := by decide +kernel
theorem d_X6_canGo_26 : decode cX6_canGo 26 = .ok (.iload 4, 2) := by decide +kernel
theorem d_X6_canGo_28 : decode cX6_canGo 28 = .ok (.invokevirtual 43, 3) := by decide +kernel
theorem d_X6_canGo_31 : decode cX6_canGo 31 = .ok (.ifCond .eq 16, 3) := by decide +kernel
theorem d_X6_canGo_34 : decode cX6_canGo 34 = .ok (.aload_n 0, 1) := by decide +kernel
theorem d_X6_canGo_35 : decode cX6_canGo 35 = .ok (.getfield 9, 3) := by decide +kernel
theorem d_X6_canGo_38 : decode cX6_canGo 38 = .ok (.iload 4, 2) := by decide +kernel
theorem d_X6_canGo_40 : decode cX6_canGo 40 = .ok (.iaload, 1) := by decide +kernel
theorem d_X6_canGo_41 : decode cX6_canGo 41 = .ok (.iload_n 3, 1) := by decide +kernel
theorem d_X6_canGo_42 : decode cX6_canGo 42 = .ok (.if_icmp .gt 5, 3) := by decide +kernel
theorem d_X6_canGo_45 : decode cX6_canGo 45 = .ok (.iconst 0, 1) := by decide +kernel
theorem d_X6_canGo_46 : decode cX6_canGo 46 = .ok (.ireturn, 1) := by decide +kernel
theorem d_X6_canGo_47 : decode cX6_canGo 47 = .ok (.iinc 4 1, 3) := by decide +kernel
theorem d_X6_canGo_50 : decode cX6_canGo 50 = .ok (.goto (-47), 3) := by decide +kernel
theorem d_X6_canGo_53 : decode cX6_canGo 53 = .ok (.iconst 1, 1) := by decide +kernel
theorem d_X6_canGo_54 : decode cX6_canGo 54 = .ok (.ireturn, 1) := by decide +kernel
theorem d_X6_firstFit_0 : decode cX6_firstFit 0 = .ok (.iconst 0, 1) := by decide +kernel
theorem d_X6_firstFit_1 : decode cX6_firstFit 1 = .ok (.istore 5, 2) := by decide +kernel
theorem d_X6_firstFit_3 : decode cX6_firstFit 3 = .ok (.iload 5, 2) := by decide +kernel
theorem d_X6_firstFit_5 : decode cX6_firstFit 5 = .ok (.aload_n 0, 1) := by decide +kernel
theorem d_X6_firstFit_6 : decode cX6_firstFit 6 = .ok (.getfield 15, 3) := by decide +kernel
theorem d_X6_firstFit_9 : decode cX6_firstFit 9 = .ok (.getfield 25, 3) := by decide +kernel
theorem d_X6_firstFit_12 : decode cX6_firstFit 12 = .ok (.if_icmp .ge 65, 3) := by decide +kernel
theorem d_X6_firstFit_15 : decode cX6_firstFit 15 = .ok (.iload_n 3, 1) := by decide +kernel
theorem d_X6_firstFit_16 : decode cX6_firstFit 16 = .ok (.iload 5, 2) := by decide +kernel
theorem d_X6_firstFit_18 : decode cX6_firstFit 18 = .ok (.ishr, 1) := by decide +kernel
theorem d_X6_firstFit_19 : decode cX6_firstFit 19 = .ok (.iconst 1, 1) := by decide +kernel
theorem d_X6_firstFit_20 : decode cX6_firstFit 20 = .ok (.iand, 1) := by decide +kernel
theorem d_X6_firstFit_21 : decode cX6_firstFit 21 = .ok (.ifCond .eq 27, 3) := by decide +kernel
theorem d_X6_firstFit_24 : decode cX6_firstFit 24 = .ok (.aload_n 0, 1) := by decide +kernel
theorem d_X6_firstFit_25 : decode cX6_firstFit 25 = .ok (.iload 5, 2) := by decide +kernel
theorem d_X6_firstFit_27 : decode cX6_firstFit 27 = .ok (.aload_n 0, 1) := by decide +kernel
theorem d_X6_firstFit_28 : decode cX6_firstFit 28 = .ok (.getfield 15, 3) := by decide +kernel
theorem d_X6_firstFit_31 : decode cX6_firstFit 31 = .ok (.invokevirtual 19, 3) := by decide +kernel
theorem d_X6_firstFit_34 : decode cX6_firstFit 34 = .ok (.iload_n 2, 1) := by decide +kernel
theorem d_X6_firstFit_35 : decode cX6_firstFit 35 = .ok (.iconst (-1), 1) := by decide +kernel
theorem d_X6_firstFit_36 : decode cX6_firstFit 36 = .ok (.ixor, 1) := by decide +kernel
theorem d_X6_firstFit_37 : decode cX6_firstFit 37 = .ok (.iand, 1) := by decide +kernel
theorem d_X6_firstFit_38 : decode cX6_firstFit 38 = .ok (.invokevirtual 43, 3) := by decide +kernel
theorem d_X6_firstFit_41 : decode cX6_firstFit 41 = .ok (.ifCond .eq 7, 3) := by decide +kernel
theorem d_X6_firstFit_44 : decode cX6_firstFit 44 = .ok (.iconst 1, 1) := by decide +kernel
theorem d_X6_firstFit_45 : decode cX6_firstFit 45 = .ok (.goto 4, 3) := by decide +kernel
theorem d_X6_firstFit_48 : decode cX6_firstFit 48 = .ok (.iconst 0, 1) := by decide +kernel
theorem d_X6_firstFit_49 : decode cX6_firstFit 49 = .ok (.istore 6, 2) := by decide +kernel
theorem d_X6_firstFit_51 : decode cX6_firstFit 51 = .ok (.iload 6, 2) := by decide +kernel
theorem d_X6_firstFit_53 : decode cX6_firstFit 53 = .ok (.ifCond .eq 18, 3) := by decide +kernel
theorem d_X6_firstFit_56 : decode cX6_firstFit 56 = .ok (.aload_n 0, 1) := by decide +kernel
theorem d_X6_firstFit_57 : decode cX6_firstFit 57 = .ok (.iload_n 1, 1) := by decide +kernel
theorem d_X6_firstFit_58 : decode cX6_firstFit 58 = .ok (.iload 5, 2) := by decide +kernel
theorem d_X6_firstFit_60 : decode cX6_firstFit 60 = .ok (.iload 4, 2) := by decide +kernel
theorem d_X6_firstFit_62 : decode cX6_firstFit 62 = .ok (.invokevirtual 71, 3) := by decide +kernel
theorem d_X6_firstFit_65 : decode cX6_firstFit 65 = .ok (.ifCond .eq 6, 3) := by decide +kernel
theorem d_X6_firstFit_68 : decode cX6_firstFit 68 = .ok (.iload 5, 2) := by decide +kernel
theorem d_X6_firstFit_70 : decode cX6_firstFit 70 = .ok (.ireturn, 1) := by decide +kernel
theorem d_X6_firstFit_71 : decode cX6_firstFit 71 = .ok (.iinc 5 1, 3) := by decide +kernel
theorem d_X6_firstFit_74 : decode cX6_firstFit 74 = .ok (.goto (-71), 3) := by decide +kernel
theorem d_X6_firstFit_77 : decode cX6_firstFit 77 = .ok (.iconst (-1), 1) := by decide +kernel
theorem d_X6_firstFit_78 : decode cX6_firstFit 78 = .ok (.ireturn, 1) := by decide +kernel
theorem d_X6_grow_0 : decode cX6_grow 0 = .ok (.iconst 1, 1) := by decide +kernel
theorem d_X6_grow_1 : decode cX6_grow 1 = .ok (.iload_n 1, 1) := by decide +kernel
theorem d_X6_grow_2 : decode cX6_grow 2 = .ok (.ishl, 1) := by decide +kernel
theorem d_X6_grow_3 : decode cX6_grow 3 = .ok (.istore 4, 2) := by decide +kernel
theorem d_X6_grow_5 : decode cX6_grow 5 = .ok (.iconst 0, 1) := by decide +kernel
theorem d_X6_grow_6 : decode cX6_grow 6 = .ok (.istore 5, 2) := by decide +kernel
theorem d_X6_grow_8 : decode cX6_grow 8 = .ok (.iconst 1, 1) := by decide +kernel
theorem d_X6_grow_9 : decode cX6_grow 9 = .ok (.istore 6, 2) := by decide +kernel
theorem d_X6_grow_11 : decode cX6_grow 11 = .ok (.iload 6, 2) := by decide +kernel
theorem d_X6_grow_13 : decode cX6_grow 13 = .ok (.aload_n 0, 1) := by decide +kernel
theorem d_X6_grow_14 : decode cX6_grow 14 = .ok (.getfield 15, 3) := by decide +kernel
theorem d_X6_grow_17 : decode cX6_grow 17 = .ok (.getfield 64, 3) := by decide +kernel
theorem d_X6_grow_20 : decode cX6_grow 20 = .ok (.if_icmp .ge 61, 3) := by decide +kernel
theorem d_X6_grow_23 : decode cX6_grow 23 = .ok (.aload_n 0, 1) := by decide +kernel
theorem d_X6_grow_24 : decode cX6_grow 24 = .ok (.iload_n 1, 1) := by decide +kernel
theorem d_X6_grow_25 : decode cX6_grow 25 = .ok (.iload 4, 2) := by decide +kernel
theorem d_X6_grow_27 : decode cX6_grow 27 = .ok (.iload_n 2, 1) := by decide +kernel
theorem d_X6_grow_28 : decode cX6_grow 28 = .ok (.iload_n 3, 1) := by decide +kernel
theorem d_X6_grow_29 : decode cX6_grow 29 = .ok (.invokevirtual 67, 3) := by decide +kernel
theorem d_X6_grow_32 : decode cX6_grow 32 = .ok (.istore 7, 2) := by decide +kernel
theorem d_X6_grow_34 : decode cX6_grow 34 = .ok (.iload 7, 2) := by decide +kernel
theorem d_X6_grow_36 : decode cX6_grow 36 = .ok (.iconst (-1), 1) := by decide +kernel
theorem d_X6_grow_37 : decode cX6_grow 37 = .ok (.if_icmp .ne 6, 3) := by decide +kernel
theorem d_X6_grow_40 : decode cX6_grow 40 = .ok (.goto 41, 3) := by decide +kernel
theorem d_X6_grow_43 : decode cX6_grow 43 = .ok (.aload_n 0, 1) := by decide +kernel
theorem d_X6_grow_44 : decode cX6_grow 44 = .ok (.iload 7, 2) := by decide +kernel
theorem d_X6_grow_46 : decode cX6_grow 46 = .ok (.iconst (-1), 1) := by decide +kernel
theorem d_X6_grow_47 : decode cX6_grow 47 = .ok (.invokevirtual 33, 3) := by decide +kernel
theorem d_X6_grow_50 : decode cX6_grow 50 = .ok (.iload 4, 2) := by decide +kernel
theorem d_X6_grow_52 : decode cX6_grow 52 = .ok (.iconst 1, 1) := by decide +kernel
theorem d_X6_grow_53 : decode cX6_grow 53 = .ok (.aload_n 0, 1) := by decide +kernel
theorem d_X6_grow_54 : decode cX6_grow 54 = .ok (.getfield 15, 3) := by decide +kernel
theorem d_X6_grow_57 : decode cX6_grow 57 = .ok (.iload 7, 2) := by decide +kernel
theorem d_X6_grow_59 : decode cX6_grow 59 = .ok (.invokevirtual 47, 3) := by decide +kernel
theorem d_X6_grow_62 : decode cX6_grow 62 = .ok (.ishl, 1) := by decide +kernel
theorem d_X6_grow_63 : decode cX6_grow 63 = .ok (.ior, 1) := by decide +kernel
theorem d_X6_grow_64 : decode cX6_grow 64 = .ok (.istore 4, 2) := by decide +kernel
theorem d_X6_grow_66 : decode cX6_grow 66 = .ok (.iload 5, 2) := by decide +kernel
theorem d_X6_grow_68 : decode cX6_grow 68 = .ok (.iconst 1, 1) := by decide +kernel
theorem d_X6_grow_69 : decode cX6_grow 69 = .ok (.iload 7, 2) := by decide +kernel
theorem d_X6_grow_71 : decode cX6_grow 71 = .ok (.ishl, 1) := by decide +kernel
theorem d_X6_grow_72 : decode cX6_grow 72 = .ok (.ior, 1) := by decide +kernel
theorem d_X6_grow_73 : decode cX6_grow 73 = .ok (.istore 5, 2) := by decide +kernel
theorem d_X6_grow_75 : decode cX6_grow 75 = .ok (.iinc 6 1, 3) := by decide +kernel
theorem d_X6_grow_78 : decode cX6_grow 78 = .ok (.goto (-67), 3) := by decide +kernel
theorem d_X6_grow_81 : decode cX6_grow 81 = .ok (.iload 5, 2) := by decide +kernel
theorem d_X6_grow_83 : decode cX6_grow 83 = .ok (.ireturn, 1) := by decide +kernel
theorem d_X6_treeSet_0 : decode cX6_treeSet 0 = .ok (.aload_n 0, 1) := by decide +kernel
theorem d_X6_treeSet_1 : decode cX6_treeSet 1 = .ok (.iload_n 1, 1) := by decide +kernel
theorem d_X6_treeSet_2 : decode cX6_treeSet 2 = .ok (.invokevirtual 54, 3) := by decide +kernel
theorem d_X6_treeSet_5 : decode cX6_treeSet 5 = .ok (.istore_n 3, 1) := by decide +kernel
theorem d_X6_treeSet_6 : decode cX6_treeSet 6 = .ok (.iload_n 2, 1) := by decide +kernel
theorem d_X6_treeSet_7 : decode cX6_treeSet 7 = .ok (.ifCond .lt 8, 3) := by decide +kernel
theorem d_X6_treeSet_10 : decode cX6_treeSet 10 = .ok (.iload_n 2, 1) := by decide +kernel
theorem d_X6_treeSet_11 : decode cX6_treeSet 11 = .ok (.iload_n 3, 1) := by decide +kernel
theorem d_X6_treeSet_12 : decode cX6_treeSet 12 = .ok (.if_icmp .lt 5, 3) := by decide +kernel
theorem d_X6_treeSet_15 : decode cX6_treeSet 15 = .ok (.iconst (-1), 1) := by decide +kernel
theorem d_X6_treeSet_16 : decode cX6_treeSet 16 = .ok (.ireturn, 1) := by decide +kernel
theorem d_X6_treeSet_17 : decode cX6_treeSet 17 = .ok (.aload_n 0, 1) := by decide +kernel
theorem d_X6_treeSet_18 : decode cX6_treeSet 18 = .ok (.getfield 15, 3) := by decide +kernel
theorem d_X6_treeSet_21 : decode cX6_treeSet 21 = .ok (.invokevirtual 57, 3) := by decide +kernel
theorem d_X6_treeSet_24 : decode cX6_treeSet 24 = .ok (.istore 4, 2) := by decide +kernel
theorem d_X6_treeSet_26 : decode cX6_treeSet 26 = .ok (.iconst 0, 1) := by decide +kernel
theorem d_X6_treeSet_27 : decode cX6_treeSet 27 = .ok (.istore 5, 2) := by decide +kernel
theorem d_X6_treeSet_29 : decode cX6_treeSet 29 = .ok (.iconst 0, 1) := by decide +kernel
theorem d_X6_treeSet_30 : decode cX6_treeSet 30 = .ok (.istore 6, 2) := by decide +kernel
theorem d_X6_treeSet_32 : decode cX6_treeSet 32 = .ok (.iload 6, 2) := by decide +kernel
theorem d_X6_treeSet_34 : decode cX6_treeSet 34 = .ok (.iload_n 2, 1) := by decide +kernel
theorem d_X6_treeSet_35 : decode cX6_treeSet 35 = .ok (.if_icmp .gt 33, 3) := by decide +kernel
theorem d_X6_treeSet_38 : decode cX6_treeSet 38 = .ok (.iload 4, 2) := by decide +kernel
theorem d_X6_treeSet_40 : decode cX6_treeSet 40 = .ok (.iload 5, 2) := by decide +kernel
theorem d_X6_treeSet_42 : decode cX6_treeSet 42 = .ok (.iconst (-1), 1) := by decide +kernel
theorem d_X6_treeSet_43 : decode cX6_treeSet 43 = .ok (.ixor, 1) := by decide +kernel
theorem d_X6_treeSet_44 : decode cX6_treeSet 44 = .ok (.iand, 1) := by decide +kernel
theorem d_X6_treeSet_45 : decode cX6_treeSet 45 = .ok (.istore 4, 2) := by decide +kernel
theorem d_X6_treeSet_47 : decode cX6_treeSet 47 = .ok (.aload_n 0, 1) := by decide +kernel
theorem d_X6_treeSet_48 : decode cX6_treeSet 48 = .ok (.iload_n 1, 1) := by decide +kernel
theorem d_X6_treeSet_49 : decode cX6_treeSet 49 = .ok (.iload 4, 2) := by decide +kernel
theorem d_X6_treeSet_51 : decode cX6_treeSet 51 = .ok (.iload_n 3, 1) := by decide +kernel
theorem d_X6_treeSet_52 : decode cX6_treeSet 52 = .ok (.iload 6, 2) := by decide +kernel
theorem d_X6_treeSet_54 : decode cX6_treeSet 54 = .ok (.isub, 1) := by decide +kernel
theorem d_X6_treeSet_55 : decode cX6_treeSet 55 = .ok (.iconst 1, 1) := by decide +kernel
theorem d_X6_treeSet_56 : decode cX6_treeSet 56 = .ok (.isub, 1) := by decide +kernel
theorem d_X6_treeSet_57 : decode cX6_treeSet 57 = .ok (.invokevirtual 60, 3) := by decide +kernel
theorem d_X6_treeSet_60 : decode cX6_treeSet 60 = .ok (.istore 5, 2) := by decide +kernel
theorem d_X6_treeSet_62 : decode cX6_treeSet 62 = .ok (.iinc 6 1, 3) := by decide +kernel
theorem d_X6_treeSet_65 : decode cX6_treeSet 65 = .ok (.goto (-33), 3) := by decide +kernel
theorem d_X6_treeSet_68 : decode cX6_treeSet 68 = .ok (.iload 5, 2) := by decide +kernel
theorem d_X6_treeSet_70 : decode cX6_treeSet 70 = .ok (.ireturn, 1) := by decide +kernel
theorem d_X11_outTree_0 : decode cX11_outTree 0 = .ok (.aload_n 0, 1) := by decide +kernel
theorem d_X11_outTree_1 : decode cX11_outTree 1 = .ok (.getfield 10, 3) := by decide +kernel
theorem d_X11_outTree_4 : decode cX11_outTree 4 = .ok (.getfield 184, 3) := by decide +kernel
theorem d_X11_outTree_7 : decode cX11_outTree 7 = .ok (.iconst 2, 1) := by decide +kernel
theorem d_X11_outTree_8 : decode cX11_outTree 8 = .ok (.if_icmp .lt 18, 3) := by decide +kernel
theorem d_X11_outTree_11 : decode cX11_outTree 11 = .ok (.iload_n 1, 1) := by decide +kernel
theorem d_X11_outTree_12 : decode cX11_outTree 12 = .ok (.ifCond .lt 14, 3) := by decide +kernel
theorem d_X11_outTree_15 : decode cX11_outTree 15 = .ok (.iload_n 1, 1) := by decide +kernel
theorem d_X11_outTree_16 : decode cX11_outTree 16 = .ok (.aload_n 0, 1) := by decide +kernel
theorem d_X11_outTree_17 : decode cX11_outTree 17 = .ok (.getfield 10, 3) := by decide +kernel
theorem d_X11_outTree_20 : decode cX11_outTree 20 = .ok (.getfield 184, 3) := by decide +kernel
theorem d_X11_outTree_23 : decode cX11_outTree 23 = .ok (.if_icmp .lt 5, 3) := by decide +kernel
theorem d_X11_outTree_26 : decode cX11_outTree 26 = .ok (.iconst (-1), 1) := by decide +kernel
theorem d_X11_outTree_27 : decode cX11_outTree 27 = .ok (.ireturn, 1) := by decide +kernel
theorem d_X11_outTree_28 : decode cX11_outTree 28 = .ok (.aload_n 0, 1) := by decide +kernel
theorem d_X11_outTree_29 : decode cX11_outTree 29 = .ok (.getfield 74, 3) := by decide +kernel
theorem d_X11_outTree_32 : decode cX11_outTree 32 = .ok (.iload_n 1, 1) := by decide +kernel
theorem d_X11_outTree_33 : decode cX11_outTree 33 = .ok (.iload_n 2, 1) := by decide +kernel
theorem d_X11_outTree_34 : decode cX11_outTree 34 = .ok (.invokevirtual 303, 3) := by decide +kernel
theorem d_X11_outTree_37 : decode cX11_outTree 37 = .ok (.ireturn, 1) := by decide +kernel
theorem d_X8_leastFull_0 : decode cX8_leastFull 0 = .ok (.aload_n 0, 1) := by decide +kernel
theorem d_X8_leastFull_1 : decode cX8_leastFull 1 = .ok (.getfield 21, 3) := by decide +kernel
theorem d_X8_leastFull_4 : decode cX8_leastFull 4 = .ok (.iload_n 1, 1) := by decide +kernel
theorem d_X8_leastFull_5 : decode cX8_leastFull 5 = .ok (.invokevirtual 85, 3) := by decide +kernel
theorem d_X8_leastFull_8 : decode cX8_leastFull 8 = .ok (.istore_n 3, 1) := by decide +kernel
theorem d_X8_leastFull_9 : decode cX8_leastFull 9 = .ok (.iconst 1, 1) := by decide +kernel
theorem d_X8_leastFull_10 : decode cX8_leastFull 10 = .ok (.aload_n 0, 1) := by decide +kernel
theorem d_X8_leastFull_11 : decode cX8_leastFull 11 = .ok (.getfield 21, 3) := by decide +kernel
theorem d_X8_leastFull_14 : decode cX8_leastFull 14 = .ok (.getfield 39, 3) := by decide +kernel
theorem d_X8_leastFull_17 : decode cX8_leastFull 17 = .ok (.ishl, 1) := by decide +kernel
theorem d_X8_leastFull_18 : decode cX8_leastFull 18 = .ok (.istore 4, 2) := by decide +kernel
theorem d_X8_leastFull_20 : decode cX8_leastFull 20 = .ok (.aload_n 0, 1) := by decide +kernel
theorem d_X8_leastFull_21 : decode cX8_leastFull 21 = .ok (.getfield 21, 3) := by decide +kernel
theorem d_X8_leastFull_24 : decode cX8_leastFull 24 = .ok (.invokevirtual 57, 3) := by decide +kernel
theorem d_X8_leastFull_27 : decode cX8_leastFull 27 = .ok (.istore 5, 2) := by decide +kernel
theorem d_X8_leastFull_29 : decode cX8_leastFull 29 = .ok (.iload_n 3, 1) := by decide +kernel
theorem d_X8_leastFull_30 : decode cX8_leastFull 30 = .ok (.istore 6, 2) := by decide +kernel
theorem d_X8_leastFull_32 : decode cX8_leastFull 32 = .ok (.iload 6, 2) := by decide +kernel
theorem d_X8_leastFull_34 : decode cX8_leastFull 34 = .ok (.iload 4, 2) := by decide +kernel
theorem d_X8_leastFull_36 : decode cX8_leastFull 36 = .ok (.if_icmp .ge 31, 3) := by decide +kernel
theorem d_X8_leastFull_39 : decode cX8_leastFull 39 = .ok (.aload_n 0, 1) := by decide +kernel
theorem d_X8_leastFull_40 : decode cX8_leastFull 40 = .ok (.iload 6, 2) := by decide +kernel
theorem d_X8_leastFull_42 : decode cX8_leastFull 42 = .ok (.iload_n 2, 1) := by decide +kernel
theorem d_X8_leastFull_43 : decode cX8_leastFull 43 = .ok (.invokevirtual 88, 3) := by decide +kernel
theorem d_X8_leastFull_46 : decode cX8_leastFull 46 = .ok (.ifCond .eq 10, 3) := by decide +kernel
theorem d_X8_leastFull_49 : decode cX8_leastFull 49 = .ok (.iload 5, 2) := by decide +kernel
theorem d_X8_leastFull_51 : decode cX8_leastFull 51 = .ok (.iload 6, 2) := by decide +kernel
theorem d_X8_leastFull_53 : decode cX8_leastFull 53 = .ok (.iand, 1) := by decide +kernel
theorem d_X8_leastFull_54 : decode cX8_leastFull 54 = .ok (.istore 5, 2) := by decide +kernel
theorem d_X8_leastFull_56 : decode cX8_leastFull 56 = .ok (.iload 6, 2) := by decide +kernel
theorem d_X8_leastFull_58 : decode cX8_leastFull 58 = .ok (.iconst 1, 1) := by decide +kernel
theorem d_X8_leastFull_59 : decode cX8_leastFull 59 = .ok (.iadd, 1) := by decide +kernel
theorem d_X8_leastFull_60 : decode cX8_leastFull 60 = .ok (.iload_n 3, 1) := by decide +kernel
theorem d_X8_leastFull_61 : decode cX8_leastFull 61 = .ok (.ior, 1) := by decide +kernel
theorem d_X8_leastFull_62 : decode cX8_leastFull 62 = .ok (.istore 6, 2) := by decide +kernel
theorem d_X8_leastFull_64 : decode cX8_leastFull 64 = .ok (.goto (-32), 3) := by decide +kernel
theorem d_X8_leastFull_67 : decode cX8_leastFull 67 = .ok (.iload 5, 2) := by decide +kernel
theorem d_X8_leastFull_69 : decode cX8_leastFull 69 = .ok (.ireturn, 1) := by decide +kernel
theorem d_X8_linesIn_0 : decode cX8_linesIn 0 = .ok (.iconst 0, 1) := by decide +kernel
theorem d_X8_linesIn_1 : decode cX8_linesIn 1 = .ok (.istore_n 2, 1) := by decide +kernel
theorem d_X8_linesIn_2 : decode cX8_linesIn 2 = .ok (.iconst 0, 1) := by decide +kernel
theorem d_X8_linesIn_3 : decode cX8_linesIn 3 = .ok (.istore_n 3, 1) := by decide +kernel
theorem d_X8_linesIn_4 : decode cX8_linesIn 4 = .ok (.iload_n 3, 1) := by decide +kernel
theorem d_X8_linesIn_5 : decode cX8_linesIn 5 = .ok (.aload_n 0, 1) := by decide +kernel
theorem d_X8_linesIn_6 : decode cX8_linesIn 6 = .ok (.getfield 21, 3) := by decide +kernel
theorem d_X8_linesIn_9 : decode cX8_linesIn 9 = .ok (.getfield 44, 3) := by decide +kernel
theorem d_X8_linesIn_12 : decode cX8_linesIn 12 = .ok (.if_icmp .ge 30, 3) := by decide +kernel
theorem d_X8_linesIn_15 : decode cX8_linesIn 15 = .ok (.aload_n 0, 1) := by decide +kernel
theorem d_X8_linesIn_16 : decode cX8_linesIn 16 = .ok (.getfield 21, 3) := by decide +kernel
theorem d_X8_linesIn_19 : decode cX8_linesIn 19 = .ok (.iload_n 3, 1) := by decide +kernel
theorem d_X8_linesIn_20 : decode cX8_linesIn 20 = .ok (.invokevirtual 85, 3) := by decide +kernel
theorem d_X8_linesIn_23 : decode cX8_linesIn 23 = .ok (.iload_n 1, 1) := by decide +kernel
theorem d_X8_linesIn_24 : decode cX8_linesIn 24 = .ok (.iconst (-1), 1) := by decide +kernel
theorem d_X8_linesIn_25 : decode cX8_linesIn 25 = .ok (.ixor, 1) := by decide +kernel
theorem d_X8_linesIn_26 : decode cX8_linesIn 26 = .ok (.iand, 1) := by decide +kernel
theorem d_X8_linesIn_27 : decode cX8_linesIn 27 = .ok (.ifCond .ne 9, 3) := by decide +kernel
theorem d_X8_linesIn_30 : decode cX8_linesIn 30 = .ok (.iload_n 2, 1) := by decide +kernel
theorem d_X8_linesIn_31 : decode cX8_linesIn 31 = .ok (.iconst 1, 1) := by decide +kernel
theorem d_X8_linesIn_32 : decode cX8_linesIn 32 = .ok (.iload_n 3, 1) := by decide +kernel
theorem d_X8_linesIn_33 : decode cX8_linesIn 33 = .ok (.ishl, 1) := by decide +kernel
theorem d_X8_linesIn_34 : decode cX8_linesIn 34 = .ok (.ior, 1) := by decide +kernel
theorem d_X8_linesIn_35 : decode cX8_linesIn 35 = .ok (.istore_n 2, 1) := by decide +kernel
theorem d_X8_linesIn_36 : decode cX8_linesIn 36 = .ok (.iinc 3 1, 3) := by decide +kernel
theorem d_X8_linesIn_39 : decode cX8_linesIn 39 = .ok (.goto (-35), 3) := by decide +kernel
theorem d_X8_linesIn_42 : decode cX8_linesIn 42 = .ok (.iload_n 2, 1) := by decide +kernel
theorem d_X8_linesIn_43 : decode cX8_linesIn 43 = .ok (.ireturn, 1) := by decide +kernel
theorem d_X8_vitalSet_0 : decode cX8_vitalSet 0 = .ok (.aload_n 0, 1) := by decide +kernel
theorem d_X8_vitalSet_1 : decode cX8_vitalSet 1 = .ok (.iload_n 1, 1) := by decide +kernel
theorem d_X8_vitalSet_2 : decode cX8_vitalSet 2 = .ok (.invokevirtual 82, 3) := by decide +kernel
theorem d_X8_vitalSet_5 : decode cX8_vitalSet 5 = .ok (.istore_n 2, 1) := by decide +kernel
theorem d_X8_vitalSet_6 : decode cX8_vitalSet 6 = .ok (.aload_n 0, 1) := by decide +kernel
theorem d_X8_vitalSet_7 : decode cX8_vitalSet 7 = .ok (.getfield 21, 3) := by decide +kernel
theorem d_X8_vitalSet_10 : decode cX8_vitalSet 10 = .ok (.invokevirtual 101, 3) := by decide +kernel
theorem d_X8_vitalSet_13 : decode cX8_vitalSet 13 = .ok (.iload_n 2, 1) := by decide +kernel
theorem d_X8_vitalSet_14 : decode cX8_vitalSet 14 = .ok (.iconst (-1), 1) := by decide +kernel
theorem d_X8_vitalSet_15 : decode cX8_vitalSet 15 = .ok (.ixor, 1) := by decide +kernel
theorem d_X8_vitalSet_16 : decode cX8_vitalSet 16 = .ok (.iand, 1) := by decide +kernel
theorem d_X8_vitalSet_17 : decode cX8_vitalSet 17 = .ok (.istore_n 3, 1) := by decide +kernel
theorem d_X8_vitalSet_18 : decode cX8_vitalSet 18 = .ok (.iload_n 2, 1) := by decide +kernel
theorem d_X8_vitalSet_19 : decode cX8_vitalSet 19 = .ok (.istore 4, 2) := by decide +kernel
theorem d_X8_vitalSet_21 : decode cX8_vitalSet 21 = .ok (.iconst 0, 1) := by decide +kernel
theorem d_X8_vitalSet_22 : decode cX8_vitalSet 22 = .ok (.istore 5, 2) := by decide +kernel
theorem d_X8_vitalSet_24 : decode cX8_vitalSet 24 = .ok (.iload 5, 2) := by decide +kernel
theorem d_X8_vitalSet_26 : decode cX8_vitalSet 26 = .ok (.aload_n 0, 1) := by decide +kernel
theorem d_X8_vitalSet_27 : decode cX8_vitalSet 27 = .ok (.getfield 21, 3) := by decide +kernel
theorem d_X8_vitalSet_30 : decode cX8_vitalSet 30 = .ok (.getfield 44, 3) := by decide +kernel
theorem d_X8_vitalSet_33 : decode cX8_vitalSet 33 = .ok (.if_icmp .ge 36, 3) := by decide +kernel
theorem d_X8_vitalSet_36 : decode cX8_vitalSet 36 = .ok (.iload_n 3, 1) := by decide +kernel
theorem d_X8_vitalSet_37 : decode cX8_vitalSet 37 = .ok (.iload 5, 2) := by decide +kernel
theorem d_X8_vitalSet_39 : decode cX8_vitalSet 39 = .ok (.ishr, 1) := by decide +kernel
theorem d_X8_vitalSet_40 : decode cX8_vitalSet 40 = .ok (.iconst 1, 1) := by decide +kernel
theorem d_X8_vitalSet_41 : decode cX8_vitalSet 41 = .ok (.iand, 1) := by decide +kernel
theorem d_X8_vitalSet_42 : decode cX8_vitalSet 42 = .ok (.ifCond .eq 21, 3) := by decide +kernel
theorem d_X8_vitalSet_45 : decode cX8_vitalSet 45 = .ok (.iload 4, 2) := by decide +kernel
theorem d_X8_vitalSet_47 : decode cX8_vitalSet 47 = .ok (.aload_n 0, 1) := by decide +kernel
theorem d_X8_vitalSet_48 : decode cX8_vitalSet 48 = .ok (.aload_n 0, 1) := by decide +kernel
theorem d_X8_vitalSet_49 : decode cX8_vitalSet 49 = .ok (.iload 5, 2) := by decide +kernel
theorem d_X8_vitalSet_51 : decode cX8_vitalSet 51 = .ok (.iload_n 1, 1) := by decide +kernel
theorem d_X8_vitalSet_52 : decode cX8_vitalSet 52 = .ok (.invokevirtual 104, 3) := by decide +kernel
theorem d_X8_vitalSet_55 : decode cX8_vitalSet 55 = .ok (.invokevirtual 107, 3) := by decide +kernel
theorem d_X8_vitalSet_58 : decode cX8_vitalSet 58 = .ok (.iconst (-1), 1) := by decide +kernel
theorem d_X8_vitalSet_59 : decode cX8_vitalSet 59 = .ok (.ixor, 1) := by decide +kernel
theorem d_X8_vitalSet_60 : decode cX8_vitalSet 60 = .ok (.iand, 1) := by decide +kernel
theorem d_X8_vitalSet_61 : decode cX8_vitalSet 61 = .ok (.istore 4, 2) := by decide +kernel
theorem d_X8_vitalSet_63 : decode cX8_vitalSet 63 = .ok (.iinc 5 1, 3) := by decide +kernel
theorem d_X8_vitalSet_66 : decode cX8_vitalSet 66 = .ok (.goto (-42), 3) := by decide +kernel
theorem d_X8_vitalSet_69 : decode cX8_vitalSet 69 = .ok (.iload 4, 2) := by decide +kernel
theorem d_X8_vitalSet_71 : decode cX8_vitalSet 71 = .ok (.ireturn, 1) := by decide +kernel
theorem d_X11_vital_0 : decode cX11_vital 0 = .ok (.aload_n 0, 1) := by decide +kernel
theorem d_X11_vital_1 : decode cX11_vital 1 = .ok (.getfield 51, 3) := by decide +kernel
theorem d_X11_vital_4 : decode cX11_vital 4 = .ok (.aload_n 0, 1) := by decide +kernel
theorem d_X11_vital_5 : decode cX11_vital 5 = .ok (.getfield 10, 3) := by decide +kernel
theorem d_X11_vital_8 : decode cX11_vital 8 = .ok (.getfield 129, 3) := by decide +kernel
theorem d_X11_vital_11 : decode cX11_vital 11 = .ok (.invokevirtual 306, 3) := by decide +kernel
theorem d_X11_vital_14 : decode cX11_vital 14 = .ok (.ireturn, 1) := by decide +kernel
theorem d_X4_isLineLeft_0 : decode cX4_isLineLeft 0 = .ok (.iconst 0, 1) := by decide +kernel
theorem d_X4_isLineLeft_1 : decode cX4_isLineLeft 1 = .ok (.istore_n 1, 1) := by decide +kernel
theorem d_X4_isLineLeft_2 : decode cX4_isLineLeft 2 = .ok (.iload_n 1, 1) := by decide +kernel
theorem d_X4_isLineLeft_3 : decode cX4_isLineLeft 3 = .ok (.aload_n 0, 1) := by decide +kernel
theorem d_X4_isLineLeft_4 : decode cX4_isLineLeft 4 = .ok (.getfield 24, 3) := by decide +kernel
theorem d_X4_isLineLeft_7 : decode cX4_isLineLeft 7 = .ok (.getfield 61, 3) := by decide +kernel
theorem d_X4_isLineLeft_10 : decode cX4_isLineLeft 10 = .ok (.if_icmp .ge 53, 3) := by decide +kernel
theorem d_X4_isLineLeft_13 : decode cX4_isLineLeft 13 = .ok (.aload_n 0, 1) := by decide +kernel
theorem d_X4_isLineLeft_14 : decode cX4_isLineLeft 14 = .ok (.getfield 24, 3) := by decide +kernel
theorem d_X4_isLineLeft_17 : decode cX4_isLineLeft 17 = .ok (.iload_n 1, 1) := by decide +kernel
theorem d_X4_isLineLeft_18 : decode cX4_isLineLeft 18 = .ok (.invokevirtual 65, 3) := by decide +kernel
theorem d_X4_isLineLeft_21 : decode cX4_isLineLeft 21 = .ok (.ifCond .eq 36, 3) := by decide +kernel
theorem d_X4_isLineLeft_24 : decode cX4_isLineLeft 24 = .ok (.aload_n 0, 1) := by decide +kernel
theorem d_X4_isLineLeft_25 : decode cX4_isLineLeft 25 = .ok (.getfield 9, 3) := by decide +kernel
theorem d_X4_isLineLeft_28 : decode cX4_isLineLeft 28 = .ok (.aload_n 0, 1) := by decide +kernel
theorem d_X4_isLineLeft_29 : decode cX4_isLineLeft 29 = .ok (.getfield 24, 3) := by decide +kernel
theorem d_X4_isLineLeft_32 : decode cX4_isLineLeft 32 = .ok (.getfield 69, 3) := by decide +kernel
theorem d_X4_isLineLeft_35 : decode cX4_isLineLeft 35 = .ok (.iload_n 1, 1) := by decide +kernel
theorem d_X4_isLineLeft_36 : decode cX4_isLineLeft 36 = .ok (.iaload, 1) := by decide +kernel
theorem d_X4_isLineLeft_37 : decode cX4_isLineLeft 37 = .ok (.iaload, 1) := by decide +kernel
theorem d_X4_isLineLeft_38 : decode cX4_isLineLeft 38 = .ok (.aload_n 0, 1) := by decide +kernel
theorem d_X4_isLineLeft_39 : decode cX4_isLineLeft 39 = .ok (.getfield 9, 3) := by decide +kernel
theorem d_X4_isLineLeft_42 : decode cX4_isLineLeft 42 = .ok (.aload_n 0, 1) := by decide +kernel
theorem d_X4_isLineLeft_43 : decode cX4_isLineLeft 43 = .ok (.getfield 24, 3) := by decide +kernel
theorem d_X4_isLineLeft_46 : decode cX4_isLineLeft 46 = .ok (.getfield 72, 3) := by decide +kernel
theorem d_X4_isLineLeft_49 : decode cX4_isLineLeft 49 = .ok (.iload_n 1, 1) := by decide +kernel
theorem d_X4_isLineLeft_50 : decode cX4_isLineLeft 50 = .ok (.iaload, 1) := by decide +kernel
theorem d_X4_isLineLeft_51 : decode cX4_isLineLeft 51 = .ok (.iaload, 1) := by decide +kernel
theorem d_X4_isLineLeft_52 : decode cX4_isLineLeft 52 = .ok (.if_icmp .eq 5, 3) := by decide +kernel
theorem d_X4_isLineLeft_55 : decode cX4_isLineLeft 55 = .ok (.iconst 1, 1) := by decide +kernel
theorem d_X4_isLineLeft_56 : decode cX4_isLineLeft 56 = .ok (.ireturn, 1) := by decide +kernel
theorem d_X4_isLineLeft_57 : decode cX4_isLineLeft 57 = .ok (.iinc 1 1, 3) := by decide +kernel
theorem d_X4_isLineLeft_60 : decode cX4_isLineLeft 60 = .ok (.goto (-58), 3) := by decide +kernel
theorem d_X4_isLineLeft_63 : decode cX4_isLineLeft 63 = .ok (.iconst 0, 1) := by decide +kernel
theorem d_X4_isLineLeft_64 : decode cX4_isLineLeft 64 = .ok (.ireturn, 1) := by decide +kernel
theorem d_X4_join_0 : decode cX4_join 0 = .ok (.iload_n 1, 1) := by decide +kernel
theorem d_X4_join_1 : decode cX4_join 1 = .ok (.iload_n 1, 1) := by decide +kernel
theorem d_X4_join_2 : decode cX4_join 2 = .ok (.ineg, 1) := by decide +kernel
theorem d_X4_join_3 : decode cX4_join 3 = .ok (.iand, 1) := by decide +kernel
theorem d_X4_join_4 : decode cX4_join 4 = .ok (.iconst 1, 1) := by decide +kernel
theorem d_X4_join_5 : decode cX4_join 5 = .ok (.isub, 1) := by decide +kernel
theorem d_X4_join_6 : decode cX4_join 6 = .ok (.invokestatic 75, 3) := by decide +kernel
theorem d_X4_join_9 : decode cX4_join 9 = .ok (.istore_n 2, 1) := by decide +kernel
theorem d_X4_join_10 : decode cX4_join 10 = .ok (.iconst 0, 1) := by decide +kernel
theorem d_X4_join_11 : decode cX4_join 11 = .ok (.istore_n 3, 1) := by decide +kernel
theorem d_X4_join_12 : decode cX4_join 12 = .ok (.iconst 0, 1) := by decide +kernel
theorem d_X4_join_13 : decode cX4_join 13 = .ok (.istore 4, 2) := by decide +kernel
theorem d_X4_join_15 : decode cX4_join 15 = .ok (.iload 4, 2) := by decide +kernel
theorem d_X4_join_17 : decode cX4_join 17 = .ok (.aload_n 0, 1) := by decide +kernel
theorem d_X4_join_18 : decode cX4_join 18 = .ok (.getfield 24, 3) := by decide +kernel
theorem d_X4_join_21 : decode cX4_join 21 = .ok (.getfield 80, 3) := by decide +kernel
theorem d_X4_join_24 : decode cX4_join 24 = .ok (.if_icmp .ge 38, 3) := by decide +kernel
theorem d_X4_join_27 : decode cX4_join 27 = .ok (.iload_n 1, 1) := by decide +kernel
theorem d_X4_join_28 : decode cX4_join 28 = .ok (.aload_n 0, 1) := by decide +kernel
theorem d_X4_join_29 : decode cX4_join 29 = .ok (.getfield 9, 3) := by decide +kernel
theorem d_X4_join_32 : decode cX4_join 32 = .ok (.iload 4, 2) := by decide +kernel
theorem d_X4_join_34 : decode cX4_join 34 = .ok (.iaload, 1) := by decide +kernel
theorem d_X4_join_35 : decode cX4_join 35 = .ok (.ishr, 1) := by decide +kernel
theorem d_X4_join_36 : decode cX4_join 36 = .ok (.iconst 1, 1) := by decide +kernel
theorem d_X4_join_37 : decode cX4_join 37 = .ok (.iand, 1) := by decide +kernel
theorem d_X4_join_38 : decode cX4_join 38 = .ok (.ifCond .eq 18, 3) := by decide +kernel
theorem d_X4_join_41 : decode cX4_join 41 = .ok (.aload_n 0, 1) := by decide +kernel
theorem d_X4_join_42 : decode cX4_join 42 = .ok (.getfield 9, 3) := by decide +kernel
theorem d_X4_join_45 : decode cX4_join 45 = .ok (.iload 4, 2) := by decide +kernel
theorem d_X4_join_47 : decode cX4_join 47 = .ok (.iload_n 2, 1) := by decide +kernel
theorem d_X4_join_48 : decode cX4_join 48 = .ok (.iastore, 1) := by decide +kernel
theorem d_X4_join_49 : decode cX4_join 49 = .ok (.iload_n 3, 1) := by decide +kernel
theorem d_X4_join_50 : decode cX4_join 50 = .ok (.iconst 1, 1) := by decide +kernel
theorem d_X4_join_51 : decode cX4_join 51 = .ok (.iload 4, 2) := by decide +kernel
theorem d_X4_join_53 : decode cX4_join 53 = .ok (.ishl, 1) := by decide +kernel
theorem d_X4_join_54 : decode cX4_join 54 = .ok (.ior, 1) := by decide +kernel
theorem d_X4_join_55 : decode cX4_join 55 = .ok (.istore_n 3, 1) := by decide +kernel
theorem d_X4_join_56 : decode cX4_join 56 = .ok (.iinc 4 1, 3) := by decide +kernel
theorem d_X4_join_59 : decode cX4_join 59 = .ok (.goto (-44), 3) := by decide +kernel
theorem d_X4_join_62 : decode cX4_join 62 = .ok (.iload_n 3, 1) := by decide +kernel
theorem d_X4_join_63 : decode cX4_join 63 = .ok (.ireturn, 1) := by decide +kernel
theorem d_X4_melt_0 : decode cX4_melt 0 = .ok (.iconst 0, 1) := by decide +kernel
theorem d_X4_melt_1 : decode cX4_melt 1 = .ok (.istore_n 1, 1) := by decide +kernel
theorem d_X4_melt_2 : decode cX4_melt 2 = .ok (.iload_n 1, 1) := by decide +kernel
theorem d_X4_melt_3 : decode cX4_melt 3 = .ok (.bipush 10, 2) := by decide +kernel
theorem d_X4_melt_5 : decode cX4_melt 5 = .ok (.if_icmp .ge 16, 3) := by decide +kernel
theorem d_X4_melt_8 : decode cX4_melt 8 = .ok (.aload_n 0, 1) := by decide +kernel
theorem d_X4_melt_9 : decode cX4_melt 9 = .ok (.getfield 9, 3) := by decide +kernel
theorem d_X4_melt_12 : decode cX4_melt 12 = .ok (.iload_n 1, 1) := by decide +kernel
theorem d_X4_melt_13 : decode cX4_melt 13 = .ok (.iload_n 1, 1) := by decide +kernel
theorem d_X4_melt_14 : decode cX4_melt 14 = .ok (.iastore, 1) := by decide +kernel
theorem d_X4_melt_15 : decode cX4_melt 15 = .ok (.iinc 1 1, 3) := by decide +kernel
theorem d_X4_melt_18 : decode cX4_melt 18 = .ok (.goto (-16), 3) := by decide +kernel
theorem d_X4_melt_21 : decode cX4_melt 21 = .ok (.aload_n 0, 1) := by decide +kernel
theorem d_X4_melt_22 : decode cX4_melt 22 = .ok (.getfield 24, 3) := by decide +kernel
theorem d_X4_melt_25 : decode cX4_melt 25 = .ok (.invokevirtual 32, 3) := by decide +kernel
theorem d_X4_melt_28 : decode cX4_melt 28 = .ok (.istore_n 1, 1) := by decide +kernel
theorem d_X4_melt_29 : decode cX4_melt 29 = .ok (.iconst 0, 1) := by decide +kernel
theorem d_X4_melt_30 : decode cX4_melt 30 = .ok (.istore_n 2, 1) := by decide +kernel
theorem d_X4_melt_31 : decode cX4_melt 31 = .ok (.iload_n 2, 1) := by decide +kernel
theorem d_X4_melt_32 : decode cX4_melt 32 = .ok (.bipush 10, 2) := by decide +kernel
theorem d_X4_melt_34 : decode cX4_melt 34 = .ok (.if_icmp .ge 83, 3) := by decide +kernel
theorem d_X4_melt_37 : decode cX4_melt 37 = .ok (.aload_n 0, 1) := by decide +kernel
theorem d_X4_melt_38 : decode cX4_melt 38 = .ok (.invokevirtual 38, 3) := by decide +kernel
theorem d_X4_melt_41 : decode cX4_melt 41 = .ok (.ifCond .eq 76, 3) := by decide +kernel
theorem d_X4_melt_44 : decode cX4_melt 44 = .ok (.aload_n 0, 1) := by decide +kernel
theorem d_X4_melt_45 : decode cX4_melt 45 = .ok (.getfield 28, 3) := by decide +kernel
theorem d_X4_melt_48 : decode cX4_melt 48 = .ok (.aload_n 0, 1) := by decide +kernel
theorem d_X4_melt_49 : decode cX4_melt 49 = .ok (.getfield 9, 3) := by decide +kernel
theorem d_X4_melt_52 : decode cX4_melt 52 = .ok (.iload_n 1, 1) := by decide +kernel
theorem d_X4_melt_53 : decode cX4_melt 53 = .ok (.invokevirtual 42, 3) := by decide +kernel
theorem d_X4_melt_56 : decode cX4_melt 56 = .ok (.aload_n 0, 1) := by decide +kernel
theorem d_X4_melt_57 : decode cX4_melt 57 = .ok (.getfield 28, 3) := by decide +kernel
theorem d_X4_melt_60 : decode cX4_melt 60 = .ok (.invokevirtual 48, 3) := by decide +kernel
theorem d_X4_melt_63 : decode cX4_melt 63 = .ok (.istore_n 3, 1) := by decide +kernel
theorem d_X4_melt_64 : decode cX4_melt 64 = .ok (.aload_n 0, 1) := by decide +kernel
theorem d_X4_melt_65 : decode cX4_melt 65 = .ok (.getfield 15, 3) := by decide +kernel
theorem d_X4_melt_68 : decode cX4_melt 68 = .ok (.iload_n 2, 1) := by decide +kernel
theorem d_X4_melt_69 : decode cX4_melt 69 = .ok (.aload_n 0, 1) := by decide +kernel
theorem d_X4_melt_70 : decode cX4_melt 70 = .ok (.getfield 28, 3) := by decide +kernel
theorem d_X4_melt_73 : decode cX4_melt 73 = .ok (.invokevirtual 51, 3) := by decide +kernel
theorem d_X4_melt_76 : decode cX4_melt 76 = .ok (.iastore, 1) := by decide +kernel
theorem d_X4_melt_77 : decode cX4_melt 77 = .ok (.aload_n 0, 1) := by decide +kernel
theorem d_X4_melt_78 : decode cX4_melt 78 = .ok (.getfield 18, 3) := by decide +kernel
theorem d_X4_melt_81 : decode cX4_melt 81 = .ok (.iload_n 2, 1) := by decide +kernel
theorem d_X4_melt_82 : decode cX4_melt 82 = .ok (.aload_n 0, 1) := by decide +kernel
theorem d_X4_melt_83 : decode cX4_melt 83 = .ok (.getfield 28, 3) := by decide +kernel
theorem d_X4_melt_86 : decode cX4_melt 86 = .ok (.invokevirtual 54, 3) := by decide +kernel
theorem d_X4_melt_89 : decode cX4_melt 89 = .ok (.iastore, 1) := by decide +kernel
theorem d_X4_melt_90 : decode cX4_melt 90 = .ok (.aload_n 0, 1) := by decide +kernel
theorem d_X4_melt_91 : decode cX4_melt 91 = .ok (.getfield 21, 3) := by decide +kernel
theorem d_X4_melt_94 : decode cX4_melt 94 = .ok (.iload_n 2, 1) := by decide +kernel
theorem d_X4_melt_95 : decode cX4_melt 95 = .ok (.aload_n 0, 1) := by decide +kernel
theorem d_X4_melt_96 : decode cX4_melt 96 = .ok (.iload_n 3, 1) := by decide +kernel
theorem d_X4_melt_97 : decode cX4_melt 97 = .ok (.invokevirtual 57, 3) := by decide +kernel
theorem d_X4_melt_100 : decode cX4_melt 100 = .ok (.iastore, 1) := by decide +kernel
theorem d_X4_melt_101 : decode cX4_melt 101 = .ok (.iload_n 1, 1) := by decide +kernel
theorem d_X4_melt_102 : decode cX4_melt 102 = .ok (.iload_n 3, 1) := by decide +kernel
theorem d_X4_melt_103 : decode cX4_melt 103 = .ok (.iload_n 3, 1) := by decide +kernel
theorem d_X4_melt_104 : decode cX4_melt 104 = .ok (.iconst 1, 1) := by decide +kernel
theorem d_X4_melt_105 : decode cX4_melt 105 = .ok (.isub, 1) := by decide +kernel
theorem d_X4_melt_106 : decode cX4_melt 106 = .ok (.iand, 1) := by decide +kernel
theorem d_X4_melt_107 : decode cX4_melt 107 = .ok (.iconst (-1), 1) := by decide +kernel
theorem d_X4_melt_108 : decode cX4_melt 108 = .ok (.ixor, 1) := by decide +kernel
theorem d_X4_melt_109 : decode cX4_melt 109 = .ok (.iand, 1) := by decide +kernel
theorem d_X4_melt_110 : decode cX4_melt 110 = .ok (.istore_n 1, 1) := by decide +kernel
theorem d_X4_melt_111 : decode cX4_melt 111 = .ok (.iinc 2 1, 3) := by decide +kernel
theorem d_X4_melt_114 : decode cX4_melt 114 = .ok (.goto (-83), 3) := by decide +kernel
theorem d_X4_melt_117 : decode cX4_melt 117 = .ok (.iload_n 2, 1) := by decide +kernel
theorem d_X4_melt_118 : decode cX4_melt 118 = .ok (.ireturn, 1) := by decide +kernel
theorem d_X11_layers_0 : decode cX11_layers 0 = .ok (.aload_n 0, 1) := by decide +kernel
theorem d_X11_layers_1 : decode cX11_layers 1 = .ok (.getfield 60, 3) := by decide +kernel
theorem d_X11_layers_4 : decode cX11_layers 4 = .ok (.invokevirtual 309, 3) := by decide +kernel
theorem d_X11_layers_7 : decode cX11_layers 7 = .ok (.ireturn, 1) := by decide +kernel
theorem d_X4_aboveAt_0 : decode cX4_aboveAt 0 = .ok (.iload_n 1, 1) := by decide +kernel
theorem d_X4_aboveAt_1 : decode cX4_aboveAt 1 = .ok (.ifCond .lt 9, 3) := by decide +kernel
theorem d_X4_aboveAt_4 : decode cX4_aboveAt 4 = .ok (.iload_n 1, 1) := by decide +kernel
theorem d_X4_aboveAt_5 : decode cX4_aboveAt 5 = .ok (.bipush 10, 2) := by decide +kernel
theorem d_X4_aboveAt_7 : decode cX4_aboveAt 7 = .ok (.if_icmp .lt 7, 3) := by decide +kernel
theorem d_X4_aboveAt_10 : decode cX4_aboveAt 10 = .ok (.iconst 0, 1) := by decide +kernel
theorem d_X4_aboveAt_11 : decode cX4_aboveAt 11 = .ok (.goto 9, 3) := by decide +kernel
theorem d_X4_aboveAt_14 : decode cX4_aboveAt 14 = .ok (.aload_n 0, 1) := by decide +kernel
theorem d_X4_aboveAt_15 : decode cX4_aboveAt 15 = .ok (.getfield 15, 3) := by decide +kernel
theorem d_X4_aboveAt_18 : decode cX4_aboveAt 18 = .ok (.iload_n 1, 1) := by decide +kernel
theorem d_X4_aboveAt_19 : decode cX4_aboveAt 19 = .ok (.iaload, 1) := by decide +kernel
theorem d_X4_aboveAt_20 : decode cX4_aboveAt 20 = .ok (.ireturn, 1) := by decide +kernel
theorem d_X4_belowAt_0 : decode cX4_belowAt 0 = .ok (.iload_n 1, 1) := by decide +kernel
theorem d_X4_belowAt_1 : decode cX4_belowAt 1 = .ok (.ifCond .lt 9, 3) := by decide +kernel
theorem d_X4_belowAt_4 : decode cX4_belowAt 4 = .ok (.iload_n 1, 1) := by decide +kernel
theorem d_X4_belowAt_5 : decode cX4_belowAt 5 = .ok (.bipush 10, 2) := by decide +kernel
theorem d_X4_belowAt_7 : decode cX4_belowAt 7 = .ok (.if_icmp .lt 7, 3) := by decide +kernel
theorem d_X4_belowAt_10 : decode cX4_belowAt 10 = .ok (.iconst 1, 1) := by decide +kernel
theorem d_X4_belowAt_11 : decode cX4_belowAt 11 = .ok (.goto 9, 3) := by decide +kernel
theorem d_X4_belowAt_14 : decode cX4_belowAt 14 = .ok (.aload_n 0, 1) := by decide +kernel
theorem d_X4_belowAt_15 : decode cX4_belowAt 15 = .ok (.getfield 18, 3) := by decide +kernel
theorem d_X4_belowAt_18 : decode cX4_belowAt 18 = .ok (.iload_n 1, 1) := by decide +kernel
theorem d_X4_belowAt_19 : decode cX4_belowAt 19 = .ok (.iaload, 1) := by decide +kernel
theorem d_X4_belowAt_20 : decode cX4_belowAt 20 = .ok (.ireturn, 1) := by decide +kernel
theorem d_X4_setAt_0 : decode cX4_setAt 0 = .ok (.iload_n 1, 1) := by decide +kernel
theorem d_X4_setAt_1 : decode cX4_setAt 1 = .ok (.ifCond .lt 9, 3) := by decide +kernel
theorem d_X4_setAt_4 : decode cX4_setAt 4 = .ok (.iload_n 1, 1) := by decide +kernel
theorem d_X4_setAt_5 : decode cX4_setAt 5 = .ok (.bipush 10, 2) := by decide +kernel
theorem d_X4_setAt_7 : decode cX4_setAt 7 = .ok (.if_icmp .lt 7, 3) := by decide +kernel
theorem d_X4_setAt_10 : decode cX4_setAt 10 = .ok (.iconst 0, 1) := by decide +kernel
theorem d_X4_setAt_11 : decode cX4_setAt 11 = .ok (.goto 9, 3) := by decide +kernel
theorem d_X4_setAt_14 : decode cX4_setAt 14 = .ok (.aload_n 0, 1) := by decide +kernel
theorem d_X4_setAt_15 : decode cX4_setAt 15 = .ok (.getfield 21, 3) := by decide +kernel
theorem d_X4_setAt_18 : decode cX4_setAt 18 = .ok (.iload_n 1, 1) := by decide +kernel
theorem d_X4_setAt_19 : decode cX4_setAt 19 = .ok (.iaload, 1) := by decide +kernel
theorem d_X4_setAt_20 : decode cX4_setAt 20 = .ok (.ireturn, 1) := by decide +kernel
theorem d_X11_layerAt_0 : decode cX11_layerAt 0 = .ok (.iload_n 1, 1) := by decide +kernel
theorem d_X11_layerAt_1 : decode cX11_layerAt 1 = .ok (.ifCond .lt 23, 3) := by decide +kernel
theorem d_X11_layerAt_4 : decode cX11_layerAt 4 = .ok (.iload_n 1, 1) := by decide +kernel
theorem d_X11_layerAt_5 : decode cX11_layerAt 5 = .ok (.aload_n 0, 1) := by decide +kernel
theorem d_X11_layerAt_6 : decode cX11_layerAt 6 = .ok (.getfield 60, 3) := by decide +kernel
theorem d_X11_layerAt_9 : decode cX11_layerAt 9 = .ok (.invokevirtual 309, 3) := by decide +kernel
theorem d_X11_layerAt_12 : decode cX11_layerAt 12 = .ok (.if_icmp .ge 12, 3) := by decide +kernel
theorem d_X11_layerAt_15 : decode cX11_layerAt 15 = .ok (.iload_n 2, 1) := by decide +kernel
theorem d_X11_layerAt_16 : decode cX11_layerAt 16 = .ok (.ifCond .lt 8, 3) := by decide +kernel
theorem d_X11_layerAt_19 : decode cX11_layerAt 19 = .ok (.iload_n 2, 1) := by decide +kernel
theorem d_X11_layerAt_20 : decode cX11_layerAt 20 = .ok (.iconst 2, 1) := by decide +kernel
theorem d_X11_layerAt_21 : decode cX11_layerAt 21 = .ok (.if_icmp .le 5, 3) := by decide +kernel
theorem d_X11_layerAt_24 : decode cX11_layerAt 24 = .ok (.iconst (-1), 1) := by decide +kernel
theorem d_X11_layerAt_25 : decode cX11_layerAt 25 = .ok (.ireturn, 1) := by decide +kernel
theorem d_X11_layerAt_26 : decode cX11_layerAt 26 = .ok (.iload_n 2, 1) := by decide +kernel
theorem d_X11_layerAt_27 : decode cX11_layerAt 27 = .ok (.iconst 2, 1) := by decide +kernel
theorem d_X11_layerAt_28 : decode cX11_layerAt 28 = .ok (.if_icmp .ne 12, 3) := by decide +kernel
theorem d_X11_layerAt_31 : decode cX11_layerAt 31 = .ok (.aload_n 0, 1) := by decide +kernel
theorem d_X11_layerAt_32 : decode cX11_layerAt 32 = .ok (.getfield 60, 3) := by decide +kernel
theorem d_X11_layerAt_35 : decode cX11_layerAt 35 = .ok (.iload_n 1, 1) := by decide +kernel
theorem d_X11_layerAt_36 : decode cX11_layerAt 36 = .ok (.invokevirtual 312, 3) := by decide +kernel
theorem d_X11_layerAt_39 : decode cX11_layerAt 39 = .ok (.ireturn, 1) := by decide +kernel
theorem d_X11_layerAt_40 : decode cX11_layerAt 40 = .ok (.aload_n 0, 1) := by decide +kernel
theorem d_X11_layerAt_41 : decode cX11_layerAt 41 = .ok (.getfield 60, 3) := by decide +kernel
theorem d_X11_layerAt_44 : decode cX11_layerAt 44 = .ok (.iload_n 1, 1) := by decide +kernel
theorem d_X11_layerAt_45 : decode cX11_layerAt 45 = .ok (.invokevirtual 315, 3) := by decide +kernel
theorem d_X11_layerAt_48 : decode cX11_layerAt 48 = .ok (.aload_n 0, 1) := by decide +kernel
theorem d_X11_layerAt_49 : decode cX11_layerAt 49 = .ok (.getfield 60, 3) := by decide +kernel
theorem d_X11_layerAt_52 : decode cX11_layerAt 52 = .ok (.iload_n 1, 1) := by decide +kernel
theorem d_X11_layerAt_53 : decode cX11_layerAt 53 = .ok (.invokevirtual 318, 3) := by decide +kernel
theorem d_X11_layerAt_56 : decode cX11_layerAt 56 = .ok (.iload_n 2, 1) := by decide +kernel
theorem d_X11_layerAt_57 : decode cX11_layerAt 57 = .ok (.invokestatic 282, 3) := by decide +kernel
theorem d_X11_layerAt_60 : decode cX11_layerAt 60 = .ok (.ireturn, 1) := by decide +kernel
theorem d_X8_takeByWeight_0 : decode cX8_takeByWeight 0 = .ok (.aload_n 0, 1) := by decide +kernel
theorem d_X8_takeByWeight_1 : decode cX8_takeByWeight 1 = .ok (.invokevirtual 92, 3) := by decide +kernel
theorem d_X8_takeByWeight_4 : decode cX8_takeByWeight 4 = .ok (.iconst 0, 1) := by decide +kernel
theorem d_X8_takeByWeight_5 : decode cX8_takeByWeight 5 = .ok (.istore_n 2, 1) := by decide +kernel
theorem d_X8_takeByWeight_6 : decode cX8_takeByWeight 6 = .ok (.iconst 1, 1) := by decide +kernel
theorem d_X8_takeByWeight_7 : decode cX8_takeByWeight 7 = .ok (.istore_n 3, 1) := by decide +kernel
theorem d_X8_takeByWeight_8 : decode cX8_takeByWeight 8 = .ok (.iload_n 3, 1) := by decide +kernel
theorem d_X8_takeByWeight_9 : decode cX8_takeByWeight 9 = .ok (.bipush 99, 2) := by decide +kernel
theorem d_X8_takeByWeight_11 : decode cX8_takeByWeight 11 = .ok (.if_icmp .gt 73, 3) := by decide +kernel
theorem d_X8_takeByWeight_14 : decode cX8_takeByWeight 14 = .ok (.iconst 0, 1) := by decide +kernel
theorem d_X8_takeByWeight_15 : decode cX8_takeByWeight 15 = .ok (.istore 4, 2) := by decide +kernel
theorem d_X8_takeByWeight_17 : decode cX8_takeByWeight 17 = .ok (.iload 4, 2) := by decide +kernel
theorem d_X8_takeByWeight_19 : decode cX8_takeByWeight 19 = .ok (.aload_n 0, 1) := by decide +kernel
theorem d_X8_takeByWeight_20 : decode cX8_takeByWeight 20 = .ok (.getfield 21, 3) := by decide +kernel
theorem d_X8_takeByWeight_23 : decode cX8_takeByWeight 23 = .ok (.getfield 44, 3) := by decide +kernel
theorem d_X8_takeByWeight_26 : decode cX8_takeByWeight 26 = .ok (.if_icmp .ge 52, 3) := by decide +kernel
theorem d_X8_takeByWeight_29 : decode cX8_takeByWeight 29 = .ok (.aload_n 0, 1) := by decide +kernel
theorem d_X8_takeByWeight_30 : decode cX8_takeByWeight 30 = .ok (.getfield 21, 3) := by decide +kernel
theorem d_X8_takeByWeight_33 : decode cX8_takeByWeight 33 = .ok (.getfield 98, 3) := by decide +kernel
theorem d_X8_takeByWeight_36 : decode cX8_takeByWeight 36 = .ok (.iload 4, 2) := by decide +kernel
theorem d_X8_takeByWeight_38 : decode cX8_takeByWeight 38 = .ok (.iaload, 1) := by decide +kernel
theorem d_X8_takeByWeight_39 : decode cX8_takeByWeight 39 = .ok (.iload_n 3, 1) := by decide +kernel
theorem d_X8_takeByWeight_40 : decode cX8_takeByWeight 40 = .ok (.if_icmp .ne 32, 3) := by decide +kernel
theorem d_X8_takeByWeight_43 : decode cX8_takeByWeight 43 = .ok (.aload_n 0, 1) := by decide +kernel
theorem d_X8_takeByWeight_44 : decode cX8_takeByWeight 44 = .ok (.getfield 21, 3) := by decide +kernel
theorem d_X8_takeByWeight_47 : decode cX8_takeByWeight 47 = .ok (.iload 4, 2) := by decide +kernel
theorem d_X8_takeByWeight_49 : decode cX8_takeByWeight 49 = .ok (.invokevirtual 53, 3) := by decide +kernel
theorem d_X8_takeByWeight_52 : decode cX8_takeByWeight 52 = .ok (.ifCond .eq 20, 3) := by decide +kernel
theorem d_X8_takeByWeight_55 : decode cX8_takeByWeight 55 = .ok (.aload_n 0, 1) := by decide +kernel
theorem d_X8_takeByWeight_56 : decode cX8_takeByWeight 56 = .ok (.iload 4, 2) := by decide +kernel
theorem d_X8_takeByWeight_58 : decode cX8_takeByWeight 58 = .ok (.iload_n 1, 1) := by decide +kernel
theorem d_X8_takeByWeight_59 : decode cX8_takeByWeight 59 = .ok (.invokevirtual 95, 3) := by decide +kernel
theorem d_X8_takeByWeight_62 : decode cX8_takeByWeight 62 = .ok (.ifCond .eq 10, 3) := by decide +kernel
theorem d_X8_takeByWeight_65 : decode cX8_takeByWeight 65 = .ok (.iload_n 2, 1) := by decide +kernel
theorem d_X8_takeByWeight_66 : decode cX8_takeByWeight 66 = .ok (.iconst 1, 1) := by decide +kernel
theorem d_X8_takeByWeight_67 : decode cX8_takeByWeight 67 = .ok (.iload 4, 2) := by decide +kernel
theorem d_X8_takeByWeight_69 : decode cX8_takeByWeight 69 = .ok (.ishl, 1) := by decide +kernel
theorem d_X8_takeByWeight_70 : decode cX8_takeByWeight 70 = .ok (.ior, 1) := by decide +kernel
theorem d_X8_takeByWeight_71 : decode cX8_takeByWeight 71 = .ok (.istore_n 2, 1) := by decide +kernel
theorem d_X8_takeByWeight_72 : decode cX8_takeByWeight 72 = .ok (.iinc 4 1, 3) := by decide +kernel
theorem d_X8_takeByWeight_75 : decode cX8_takeByWeight 75 = .ok (.goto (-58), 3) := by decide +kernel
theorem d_X8_takeByWeight_78 : decode cX8_takeByWeight 78 = .ok (.iinc 3 1, 3) := by decide +kernel
theorem d_X8_takeByWeight_81 : decode cX8_takeByWeight 81 = .ok (.goto (-73), 3) := by decide +kernel
theorem d_X8_takeByWeight_84 : decode cX8_takeByWeight 84 = .ok (.iload_n 2, 1) := by decide +kernel
theorem d_X8_takeByWeight_85 : decode cX8_takeByWeight 85 = .ok (.ireturn, 1) := by decide +kernel
theorem d_X5_weightOf_0 : decode cX5_weightOf 0 = .ok (.iconst 0, 1) := by decide +kernel
theorem d_X5_weightOf_1 : decode cX5_weightOf 1 = .ok (.istore_n 2, 1) := by decide +kernel
theorem d_X5_weightOf_2 : decode cX5_weightOf 2 = .ok (.iconst 0, 1) := by decide +kernel
theorem d_X5_weightOf_3 : decode cX5_weightOf 3 = .ok (.istore_n 3, 1) := by decide +kernel
theorem d_X5_weightOf_4 : decode cX5_weightOf 4 = .ok (.iload_n 3, 1) := by decide +kernel
theorem d_X5_weightOf_5 : decode cX5_weightOf 5 = .ok (.aload_n 0, 1) := by decide +kernel
theorem d_X5_weightOf_6 : decode cX5_weightOf 6 = .ok (.getfield 37, 3) := by decide +kernel
theorem d_X5_weightOf_9 : decode cX5_weightOf 9 = .ok (.if_icmp .ge 26, 3) := by decide +kernel
theorem d_X5_weightOf_12 : decode cX5_weightOf 12 = .ok (.iload_n 1, 1) := by decide +kernel
theorem d_X5_weightOf_13 : decode cX5_weightOf 13 = .ok (.iload_n 3, 1) := by decide +kernel
theorem d_X5_weightOf_14 : decode cX5_weightOf 14 = .ok (.ishr, 1) := by decide +kernel
theorem d_X5_weightOf_15 : decode cX5_weightOf 15 = .ok (.iconst 1, 1) := by decide +kernel
theorem d_X5_weightOf_16 : decode cX5_weightOf 16 = .ok (.iand, 1) := by decide +kernel
theorem d_X5_weightOf_17 : decode cX5_weightOf 17 = .ok (.ifCond .eq 12, 3) := by decide +kernel
theorem d_X5_weightOf_20 : decode cX5_weightOf 20 = .ok (.iload_n 2, 1) := by decide +kernel
theorem d_X5_weightOf_21 : decode cX5_weightOf 21 = .ok (.aload_n 0, 1) := by decide +kernel
theorem d_X5_weightOf_22 : decode cX5_weightOf 22 = .ok (.getfield 18, 3) := by decide +kernel
theorem d_X5_weightOf_25 : decode cX5_weightOf 25 = .ok (.iload_n 3, 1) := by decide +kernel
theorem d_X5_weightOf_26 : decode cX5_weightOf 26 = .ok (.iaload, 1) := by decide +kernel
theorem d_X5_weightOf_27 : decode cX5_weightOf 27 = .ok (.iadd, 1) := by decide +kernel
theorem d_X5_weightOf_28 : decode cX5_weightOf 28 = .ok (.istore_n 2, 1) := by decide +kernel
theorem d_X5_weightOf_29 : decode cX5_weightOf 29 = .ok (.iinc 3 1, 3) := by decide +kernel
theorem d_X5_weightOf_32 : decode cX5_weightOf 32 = .ok (.goto (-28), 3) := by decide +kernel
theorem d_X5_weightOf_35 : decode cX5_weightOf 35 = .ok (.iload_n 2, 1) := by decide +kernel
theorem d_X5_weightOf_36 : decode cX5_weightOf 36 = .ok (.ireturn, 1) := by decide +kernel
theorem d_X11_light_0 : decode cX11_light 0 = .ok (.iload_n 1, 1) := by decide +kernel
theorem d_X11_light_1 : decode cX11_light 1 = .ok (.ifCond .lt 18, 3) := by decide +kernel
theorem d_X11_light_4 : decode cX11_light 4 = .ok (.iload_n 1, 1) := by decide +kernel
theorem d_X11_light_5 : decode cX11_light 5 = .ok (.bipush 24, 2) := by decide +kernel
theorem d_X11_light_7 : decode cX11_light 7 = .ok (.if_icmp .gt 12, 3) := by decide +kernel
theorem d_X11_light_10 : decode cX11_light 10 = .ok (.iload_n 2, 1) := by decide +kernel
theorem d_X11_light_11 : decode cX11_light 11 = .ok (.ifCond .lt 8, 3) := by decide +kernel
theorem d_X11_light_14 : decode cX11_light 14 = .ok (.iload_n 2, 1) := by decide +kernel
theorem d_X11_light_15 : decode cX11_light 15 = .ok (.iconst 1, 1) := by decide +kernel
theorem d_X11_light_16 : decode cX11_light 16 = .ok (.if_icmp .le 5, 3) := by decide +kernel
theorem d_X11_light_19 : decode cX11_light 19 = .ok (.iconst (-1), 1) := by decide +kernel
theorem d_X11_light_20 : decode cX11_light 20 = .ok (.ireturn, 1) := by decide +kernel
theorem d_X11_light_21 : decode cX11_light 21 = .ok (.aload_n 0, 1) := by decide +kernel
theorem d_X11_light_22 : decode cX11_light 22 = .ok (.getfield 51, 3) := by decide +kernel
theorem d_X11_light_25 : decode cX11_light 25 = .ok (.iload_n 1, 1) := by decide +kernel
theorem d_X11_light_26 : decode cX11_light 26 = .ok (.invokevirtual 321, 3) := by decide +kernel
theorem d_X11_light_29 : decode cX11_light 29 = .ok (.istore_n 3, 1) := by decide +kernel
theorem d_X11_light_30 : decode cX11_light 30 = .ok (.iload_n 2, 1) := by decide +kernel
theorem d_X11_light_31 : decode cX11_light 31 = .ok (.iconst 1, 1) := by decide +kernel
theorem d_X11_light_32 : decode cX11_light 32 = .ok (.if_icmp .ne 7, 3) := by decide +kernel
theorem d_X11_light_35 : decode cX11_light 35 = .ok (.iload_n 3, 1) := by decide +kernel
theorem d_X11_light_36 : decode cX11_light 36 = .ok (.goto 11, 3) := by decide +kernel
theorem d_X11_light_39 : decode cX11_light 39 = .ok (.aload_n 0, 1) := by decide +kernel
theorem d_X11_light_40 : decode cX11_light 40 = .ok (.getfield 10, 3) := by decide +kernel
theorem d_X11_light_43 : decode cX11_light 43 = .ok (.iload_n 3, 1) := by decide +kernel
theorem d_X11_light_44 : decode cX11_light 44 = .ok (.invokevirtual 324, 3) := by decide +kernel
theorem d_X11_light_47 : decode cX11_light 47 = .ok (.ireturn, 1) := by decide +kernel
theorem d_X12_thrown_0 : decode cX12_thrown 0 = .ok (.aload_n 0, 1) := by decide +kernel
theorem d_X12_thrown_1 : decode cX12_thrown 1 = .ok (.getfield 1, 3) := by decide +kernel
theorem d_X12_thrown_4 : decode cX12_thrown 4 = .ok (.ireturn, 1) := by decide +kernel
theorem d_X12_come_0 : decode cX12_come 0 = .ok (.bipush 24, 2) := by decide +kernel
theorem d_X12_come_2 : decode cX12_come 2 = .ok (.istore_n 2, 1) := by decide +kernel
theorem d_X12_come_3 : decode cX12_come 3 = .ok (.iload_n 2, 1) := by decide +kernel
theorem d_X12_come_4 : decode cX12_come 4 = .ok (.ifCond .lt 35, 3) := by decide +kernel
theorem d_X12_come_7 : decode cX12_come 7 = .ok (.aload_n 0, 1) := by decide +kernel
theorem d_X12_come_8 : decode cX12_come 8 = .ok (.getfield 11, 3) := by decide +kernel
theorem d_X12_come_11 : decode cX12_come 11 = .ok (.aload_n 0, 1) := by decide +kernel
theorem d_X12_come_12 : decode cX12_come 12 = .ok (.getfield 15, 3) := by decide +kernel
theorem d_X12_come_15 : decode cX12_come 15 = .ok (.iload_n 1, 1) := by decide +kernel
theorem d_X12_come_16 : decode cX12_come 16 = .ok (.iload_n 2, 1) := by decide +kernel
theorem d_X12_come_17 : decode cX12_come 17 = .ok (.iushr, 1) := by decide +kernel
theorem d_X12_come_18 : decode cX12_come 18 = .ok (.sipush 255, 3) := by decide +kernel
theorem d_X12_come_21 : decode cX12_come 21 = .ok (.iand, 1) := by decide +kernel
theorem d_X12_come_22 : decode cX12_come 22 = .ok (.iastore, 1) := by decide +kernel
theorem d_X12_come_23 : decode cX12_come 23 = .ok (.aload_n 0, 1) := by decide +kernel
theorem d_X12_come_24 : decode cX12_come 24 = .ok (.dup, 1) := by decide +kernel
theorem d_X12_come_25 : decode cX12_come 25 = .ok (.getfield 15, 3) := by decide +kernel
theorem d_X12_come_28 : decode cX12_come 28 = .ok (.iconst 1, 1) := by decide +kernel
theorem d_X12_come_29 : decode cX12_come 29 = .ok (.iadd, 1) := by decide +kernel
theorem d_X12_come_30 : decode cX12_come 30 = .ok (.putfield 15, 3) := by decide +kernel
theorem d_X12_come_33 : decode cX12_come 33 = .ok (.iinc 2 (-8), 3) := by decide +kernel
theorem d_X12_come_36 : decode cX12_come 36 = .ok (.goto (-33), 3) := by decide +kernel
theorem d_X12_come_39 : decode cX12_come 39 = .ok (.return_, 1) := by decide +kernel
theorem d_X12_feed_0 : decode cX12_feed 0 = .ok (.aload_n 0, 1) := by decide +kernel
theorem d_X12_feed_1 : decode cX12_feed 1 = .ok (.iconst 0, 1) := by decide +kernel
theorem d_X12_feed_2 : decode cX12_feed 2 = .ok (.putfield 1, 3) := by decide +kernel
theorem d_X12_feed_5 : decode cX12_feed 5 = .ok (.aload_n 0, 1) := by decide +kernel
theorem d_X12_feed_6 : decode cX12_feed 6 = .ok (.getfield 15, 3) := by decide +kernel
theorem d_X12_feed_9 : decode cX12_feed 9 = .ok (.bipush 20, 2) := by decide +kernel
theorem d_X12_feed_11 : decode cX12_feed 11 = .ok (.iadd, 1) := by decide +kernel
theorem d_X12_feed_12 : decode cX12_feed 12 = .ok (.sipush 640, 3) := by decide +kernel
theorem d_X12_feed_15 : decode cX12_feed 15 = .ok (.if_icmp .le 5, 3) := by decide +kernel
theorem d_X12_feed_18 : decode cX12_feed 18 = .ok (.iconst (-1), 1) := by decide +kernel
theorem d_X12_feed_19 : decode cX12_feed 19 = .ok (.ireturn, 1) := by decide +kernel
theorem d_X12_feed_20 : decode cX12_feed 20 = .ok (.aload_n 0, 1) := by decide +kernel
theorem d_X12_feed_21 : decode cX12_feed 21 = .ok (.iload_n 1, 1) := by decide +kernel
theorem d_X12_feed_22 : decode cX12_feed 22 = .ok (.invokevirtual 18, 3) := by decide +kernel
theorem d_X12_feed_25 : decode cX12_feed 25 = .ok (.aload_n 0, 1) := by decide +kernel
theorem d_X12_feed_26 : decode cX12_feed 26 = .ok (.iload_n 2, 1) := by decide +kernel
theorem d_X12_feed_27 : decode cX12_feed 27 = .ok (.invokevirtual 18, 3) := by decide +kernel
theorem d_X12_feed_30 : decode cX12_feed 30 = .ok (.aload_n 0, 1) := by decide +kernel
theorem d_X12_feed_31 : decode cX12_feed 31 = .ok (.iload_n 3, 1) := by decide +kernel
theorem d_X12_feed_32 : decode cX12_feed 32 = .ok (.invokevirtual 18, 3) := by decide +kernel
theorem d_X12_feed_35 : decode cX12_feed 35 = .ok (.aload_n 0, 1) := by decide +kernel
theorem d_X12_feed_36 : decode cX12_feed 36 = .ok (.iload 4, 2) := by decide +kernel
theorem d_X12_feed_38 : decode cX12_feed 38 = .ok (.invokevirtual 18, 3) := by decide +kernel
theorem d_X12_feed_41 : decode cX12_feed 41 = .ok (.aload_n 0, 1) := by decide +kernel
theorem d_X12_feed_42 : decode cX12_feed 42 = .ok (.iload 5, 2) := by decide +kernel
theorem d_X12_feed_44 : decode cX12_feed 44 = .ok (.invokevirtual 18, 3) := by decide +kernel
theorem d_X12_feed_47 : decode cX12_feed 47 = .ok (.aload_n 0, 1) := by decide +kernel
theorem d_X12_feed_48 : decode cX12_feed 48 = .ok (.getfield 15, 3) := by decide +kernel
theorem d_X12_feed_51 : decode cX12_feed 51 = .ok (.ireturn, 1) := by decide +kernel
theorem d_X12_end_0 : decode cX12_end 0 = .ok (.aload_n 0, 1) := by decide +kernel
theorem d_X12_end_1 : decode cX12_end 1 = .ok (.iconst 0, 1) := by decide +kernel
theorem d_X12_end_2 : decode cX12_end 2 = .ok (.putfield 1, 3) := by decide +kernel
theorem d_X12_end_5 : decode cX12_end 5 = .ok (.iload_n 1, 1) := by decide +kernel
theorem d_X12_end_6 : decode cX12_end 6 = .ok (.ifCond .lt 11, 3) := by decide +kernel
theorem d_X12_end_9 : decode cX12_end 9 = .ok (.iload_n 1, 1) := by decide +kernel
theorem d_X12_end_10 : decode cX12_end 10 = .ok (.aload_n 0, 1) := by decide +kernel
theorem d_X12_end_11 : decode cX12_end 11 = .ok (.getfield 15, 3) := by decide +kernel
theorem d_X12_end_14 : decode cX12_end 14 = .ok (.if_icmp .le 5, 3) := by decide +kernel
theorem d_X12_end_17 : decode cX12_end 17 = .ok (.iconst 0, 1) := by decide +kernel
theorem d_X12_end_18 : decode cX12_end 18 = .ok (.ireturn, 1) := by decide +kernel
theorem d_X12_end_19 : decode cX12_end 19 = .ok (.aload_n 0, 1) := by decide +kernel
theorem d_X12_end_20 : decode cX12_end 20 = .ok (.iload_n 1, 1) := by decide +kernel
theorem d_X12_end_21 : decode cX12_end 21 = .ok (.putfield 15, 3) := by decide +kernel
theorem d_X12_end_24 : decode cX12_end 24 = .ok (.iconst 1, 1) := by decide +kernel
theorem d_X12_end_25 : decode cX12_end 25 = .ok (.ireturn, 1) := by decide +kernel
theorem d_X12_isLetter_0 : decode cX12_isLetter 0 = .ok (.iload_n 0, 1) := by decide +kernel
theorem d_X12_isLetter_1 : decode cX12_isLetter 1 = .ok (.bipush 97, 2) := by decide +kernel
theorem d_X12_isLetter_3 : decode cX12_isLetter 3 = .ok (.if_icmp .lt 13, 3) := by decide +kernel
theorem d_X12_isLetter_6 : decode cX12_isLetter 6 = .ok (.iload_n 0, 1) := by decide +kernel
theorem d_X12_isLetter_7 : decode cX12_isLetter 7 = .ok (.bipush 122, 2) := by decide +kernel
theorem d_X12_isLetter_9 : decode cX12_isLetter 9 = .ok (.if_icmp .gt 7, 3) := by decide +kernel
theorem d_X12_isLetter_12 : decode cX12_isLetter 12 = .ok (.iconst 1, 1) := by decide +kernel
theorem d_X12_isLetter_13 : decode cX12_isLetter 13 = .ok (.goto 4, 3) := by decide +kernel
theorem d_X12_isLetter_16 : decode cX12_isLetter 16 = .ok (.iconst 0, 1) := by decide +kernel
theorem d_X12_isLetter_17 : decode cX12_isLetter 17 = .ok (.ireturn, 1) := by decide +kernel
theorem d_X12_isDigit_0 : decode cX12_isDigit 0 = .ok (.iload_n 0, 1) := by decide +kernel
theorem d_X12_isDigit_1 : decode cX12_isDigit 1 = .ok (.bipush 48, 2) := by decide +kernel
theorem d_X12_isDigit_3 : decode cX12_isDigit 3 = .ok (.if_icmp .lt 13, 3) := by decide +kernel
theorem d_X12_isDigit_6 : decode cX12_isDigit 6 = .ok (.iload_n 0, 1) := by decide +kernel
theorem d_X12_isDigit_7 : decode cX12_isDigit 7 = .ok (.bipush 57, 2) := by decide +kernel
theorem d_X12_isDigit_9 : decode cX12_isDigit 9 = .ok (.if_icmp .gt 7, 3) := by decide +kernel
theorem d_X12_isDigit_12 : decode cX12_isDigit 12 = .ok (.iconst 1, 1) := by decide +kernel
theorem d_X12_isDigit_13 : decode cX12_isDigit 13 = .ok (.goto 4, 3) := by decide +kernel
theorem d_X12_isDigit_16 : decode cX12_isDigit 16 = .ok (.iconst 0, 1) := by decide +kernel
theorem d_X12_isDigit_17 : decode cX12_isDigit 17 = .ok (.ireturn, 1) := by decide +kernel
theorem d_X12_tapeAt_0 : decode cX12_tapeAt 0 = .ok (.iload_n 1, 1) := by decide +kernel
theorem d_X12_tapeAt_1 : decode cX12_tapeAt 1 = .ok (.aload_n 0, 1) := by decide +kernel
theorem d_X12_tapeAt_2 : decode cX12_tapeAt 2 = .ok (.getfield 22, 3) := by decide +kernel
theorem d_X12_tapeAt_5 : decode cX12_tapeAt 5 = .ok (.if_icmp .ge 12, 3) := by decide +kernel
theorem d_X12_tapeAt_8 : decode cX12_tapeAt 8 = .ok (.aload_n 0, 1) := by decide +kernel
theorem d_X12_tapeAt_9 : decode cX12_tapeAt 9 = .ok (.getfield 11, 3) := by decide +kernel
theorem d_X12_tapeAt_12 : decode cX12_tapeAt 12 = .ok (.iload_n 1, 1) := by decide +kernel
theorem d_X12_tapeAt_13 : decode cX12_tapeAt 13 = .ok (.iaload, 1) := by decide +kernel
theorem d_X12_tapeAt_14 : decode cX12_tapeAt 14 = .ok (.goto 4, 3) := by decide +kernel
theorem d_X12_tapeAt_17 : decode cX12_tapeAt 17 = .ok (.iconst 0, 1) := by decide +kernel
theorem d_X12_tapeAt_18 : decode cX12_tapeAt 18 = .ok (.ireturn, 1) := by decide +kernel
theorem d_X12_go_0 : decode cX12_go 0 = .ok (.aload_n 0, 1) := by decide +kernel
theorem d_X12_go_1 : decode cX12_go 1 = .ok (.getfield 25, 3) := by decide +kernel
theorem d_X12_go_4 : decode cX12_go 4 = .ok (.aload_n 0, 1) := by decide +kernel
theorem d_X12_go_5 : decode cX12_go 5 = .ok (.getfield 22, 3) := by decide +kernel
theorem d_X12_go_8 : decode cX12_go 8 = .ok (.if_icmp .ge 44, 3) := by decide +kernel
theorem d_X12_go_11 : decode cX12_go 11 = .ok (.aload_n 0, 1) := by decide +kernel
theorem d_X12_go_12 : decode cX12_go 12 = .ok (.getfield 11, 3) := by decide +kernel
theorem d_X12_go_15 : decode cX12_go 15 = .ok (.aload_n 0, 1) := by decide +kernel
theorem d_X12_go_16 : decode cX12_go 16 = .ok (.getfield 25, 3) := by decide +kernel
theorem d_X12_go_19 : decode cX12_go 19 = .ok (.iaload, 1) := by decide +kernel
theorem d_X12_go_20 : decode cX12_go 20 = .ok (.bipush 32, 2) := by decide +kernel
theorem d_X12_go_22 : decode cX12_go 22 = .ok (.if_icmp .eq 17, 3) := by decide +kernel
theorem d_X12_go_25 : decode cX12_go 25 = .ok (.aload_n 0, 1) := by decide +kernel
theorem d_X12_go_26 : decode cX12_go 26 = .ok (.getfield 11, 3) := by decide +kernel
theorem d_X12_go_29 : decode cX12_go 29 = .ok (.aload_n 0, 1) := by decide +kernel
theorem d_X12_go_30 : decode cX12_go 30 = .ok (.getfield 25, 3) := by decide +kernel
theorem d_X12_go_33 : decode cX12_go 33 = .ok (.iaload, 1) := by decide +kernel
theorem d_X12_go_34 : decode cX12_go 34 = .ok (.bipush 10, 2) := by decide +kernel
theorem d_X12_go_36 : decode cX12_go 36 = .ok (.if_icmp .ne 16, 3) := by decide +kernel
theorem d_X12_go_39 : decode cX12_go 39 = .ok (.aload_n 0, 1) := by decide +kernel
theorem d_X12_go_40 : decode cX12_go 40 = .ok (.dup, 1) := by decide +kernel
theorem d_X12_go_41 : decode cX12_go 41 = .ok (.getfield 25, 3) := by decide +kernel
theorem d_X12_go_44 : decode cX12_go 44 = .ok (.iconst 1, 1) := by decide +kernel
theorem d_X12_go_45 : decode cX12_go 45 = .ok (.iadd, 1) := by decide +kernel
theorem d_X12_go_46 : decode cX12_go 46 = .ok (.putfield 25, 3) := by decide +kernel
theorem d_X12_go_49 : decode cX12_go 49 = .ok (.goto (-49), 3) := by decide +kernel
theorem d_X12_go_52 : decode cX12_go 52 = .ok (.aload_n 0, 1) := by decide +kernel
theorem d_X12_go_53 : decode cX12_go 53 = .ok (.aload_n 0, 1) := by decide +kernel
theorem d_X12_go_54 : decode cX12_go 54 = .ok (.getfield 25, 3) := by decide +kernel
theorem d_X12_go_57 : decode cX12_go 57 = .ok (.putfield 28, 3) := by decide +kernel
theorem d_X12_go_60 : decode cX12_go 60 = .ok (.aload_n 0, 1) := by decide +kernel
theorem d_X12_go_61 : decode cX12_go 61 = .ok (.getfield 22, 3) := by decide +kernel
theorem d_X12_go_64 : decode cX12_go 64 = .ok (.sipush 600, 3) := by decide +kernel
theorem d_X12_go_67 : decode cX12_go 67 = .ok (.if_icmp .le 26, 3) := by decide +kernel
theorem d_X12_go_70 : decode cX12_go 70 = .ok (.aload_n 0, 1) := by decide +kernel
theorem d_X12_go_71 : decode cX12_go 71 = .ok (.getfield 28, 3) := by decide +kernel
theorem d_X12_go_74 : decode cX12_go 74 = .ok (.sipush 600, 3) := by decide +kernel
theorem d_X12_go_77 : decode cX12_go 77 = .ok (.if_icmp .lt 16, 3) := by decide +kernel
theorem d_X12_go_80 : decode cX12_go 80 = .ok (.aload_n 0, 1) := by decide +kernel
theorem d_X12_go_81 : decode cX12_go 81 = .ok (.sipush 600, 3) := by decide +kernel
theorem d_X12_go_84 : decode cX12_go 84 = .ok (.putfield 28, 3) := by decide +kernel
theorem d_X12_go_87 : decode cX12_go 87 = .ok (.aload_n 0, 1) := by decide +kernel
theorem d_X12_go_88 : decode cX12_go 88 = .ok (.iconst 1, 1) := by decide +kernel
theorem d_X12_go_89 : decode cX12_go 89 = .ok (.putfield 31, 3) := by decide +kernel
theorem d_X12_go_92 : decode cX12_go 92 = .ok (.return_, 1) := by decide +kernel
theorem d_X12_go_93 : decode cX12_go 93 = .ok (.aload_n 0, 1) := by decide +kernel
theorem d_X12_go_94 : decode cX12_go 94 = .ok (.getfield 25, 3) := by decide +kernel
theorem d_X12_go_97 : decode cX12_go 97 = .ok (.aload_n 0, 1) := by decide +kernel
theorem d_X12_go_98 : decode cX12_go 98 = .ok (.getfield 22, 3) := by decide +kernel
theorem d_X12_go_101 : decode cX12_go 101 = .ok (.if_icmp .lt 9, 3) := by decide +kernel
theorem d_X12_go_104 : decode cX12_go 104 = .ok (.aload_n 0, 1) := by decide +kernel
theorem d_X12_go_105 : decode cX12_go 105 = .ok (.iconst 0, 1) := by decide +kernel
theorem d_X12_go_106 : decode cX12_go 106 = .ok (.putfield 31, 3) := by decide +kernel
theorem d_X12_go_109 : decode cX12_go 109 = .ok (.return_, 1) := by decide +kernel
theorem d_X12_go_110 : decode cX12_go 110 = .ok (.aload_n 0, 1) := by decide +kernel
theorem d_X12_go_111 : decode cX12_go 111 = .ok (.getfield 11, 3) := by decide +kernel
theorem d_X12_go_114 : decode cX12_go 114 = .ok (.aload_n 0, 1) := by decide +kernel
theorem d_X12_go_115 : decode cX12_go 115 = .ok (.getfield 25, 3) := by decide +kernel
theorem d_X12_go_118 : decode cX12_go 118 = .ok (.iaload, 1) := by decide +kernel
theorem d_X12_go_119 : decode cX12_go 119 = .ok (.istore_n 1, 1) := by decide +kernel
theorem d_X12_go_120 : decode cX12_go 120 = .ok (.iload_n 1, 1) := by decide +kernel
theorem d_X12_go_121 : decode cX12_go 121 = .ok (.invokestatic 34, 3) := by decide +kernel
theorem d_X12_go_124 : decode cX12_go 124 = .ok (.ifCond .ne 36, 3) := by decide +kernel
theorem d_X12_go_127 : decode cX12_go 127 = .ok (.iload_n 1, 1) := by decide +kernel
theorem d_X12_go_128 : decode cX12_go 128 = .ok (.invokestatic 38, 3) := by decide +kernel
theorem d_X12_go_131 : decode cX12_go 131 = .ok (.ifCond .ne 29, 3) := by decide +kernel
theorem d_X12_go_134 : decode cX12_go 134 = .ok (.aload_n 0, 1) := by decide +kernel
theorem d_X12_go_135 : decode cX12_go 135 = .ok (.iload_n 1, 1) := by decide +kernel
theorem d_X12_go_136 : decode cX12_go 136 = .ok (.bipush 59, 2) := by decide +kernel
theorem d_X12_go_138 : decode cX12_go 138 = .ok (.if_icmp .ne 7, 3) := by decide +kernel
theorem d_X12_go_141 : decode cX12_go 141 = .ok (.iconst 4, 1) := by decide +kernel
theorem d_X12_go_142 : decode cX12_go 142 = .ok (.goto 4, 3) := by decide +kernel
theorem d_X12_go_145 : decode cX12_go 145 = .ok (.iconst 1, 1) := by decide +kernel
theorem d_X12_go_146 : decode cX12_go 146 = .ok (.putfield 31, 3) := by decide +kernel
theorem d_X12_go_149 : decode cX12_go 149 = .ok (.aload_n 0, 1) := by decide +kernel
theorem d_X12_go_150 : decode cX12_go 150 = .ok (.dup, 1) := by decide +kernel
theorem d_X12_go_151 : decode cX12_go 151 = .ok (.getfield 25, 3) := by decide +kernel
theorem d_X12_go_154 : decode cX12_go 154 = .ok (.iconst 1, 1) := by decide +kernel
theorem d_X12_go_155 : decode cX12_go 155 = .ok (.iadd, 1) := by decide +kernel
theorem d_X12_go_156 : decode cX12_go 156 = .ok (.putfield 25, 3) := by decide +kernel
theorem d_X12_go_159 : decode cX12_go 159 = .ok (.return_, 1) := by decide +kernel
theorem d_X12_go_160 : decode cX12_go 160 = .ok (.iload_n 1, 1) := by decide +kernel
theorem d_X12_go_161 : decode cX12_go 161 = .ok (.invokestatic 34, 3) := by decide +kernel
theorem d_X12_go_164 : decode cX12_go 164 = .ok (.istore_n 2, 1) := by decide +kernel
theorem d_X12_go_165 : decode cX12_go 165 = .ok (.iconst 1, 1) := by decide +kernel
theorem d_X12_go_166 : decode cX12_go 166 = .ok (.istore_n 3, 1) := by decide +kernel
theorem d_X12_go_167 : decode cX12_go 167 = .ok (.aload_n 0, 1) := by decide +kernel
theorem d_X12_go_168 : decode cX12_go 168 = .ok (.lconst 0, 1) := by decide +kernel
theorem d_X12_go_169 : decode cX12_go 169 = .ok (.putfield 41, 3) := by decide +kernel
theorem d_X12_go_172 : decode cX12_go 172 = .ok (.aload_n 0, 1) := by decide +kernel
theorem d_X12_go_173 : decode cX12_go 173 = .ok (.iconst 0, 1) := by decide +kernel
theorem d_X12_go_174 : decode cX12_go 174 = .ok (.putfield 45, 3) := by decide +kernel
theorem d_X12_go_177 : decode cX12_go 177 = .ok (.aload_n 0, 1) := by decide +kernel
theorem d_X12_go_178 : decode cX12_go 178 = .ok (.aload_n 0, 1) := by decide +kernel
theorem d_X12_go_179 : decode cX12_go 179 = .ok (.getfield 25, 3) := by decide +kernel
theorem d_X12_go_182 : decode cX12_go 182 = .ok (.invokevirtual 48, 3) := by decide +kernel
theorem d_X12_go_185 : decode cX12_go 185 = .ok (.invokestatic 34, 3) := by decide +kernel
theorem d_X12_go_188 : decode cX12_go 188 = .ok (.ifCond .ne 17, 3) := by decide +kernel
theorem d_X12_go_191 : decode cX12_go 191 = .ok (.aload_n 0, 1) := by decide +kernel
theorem d_X12_go_192 : decode cX12_go 192 = .ok (.aload_n 0, 1) := by decide +kernel
theorem d_X12_go_193 : decode cX12_go 193 = .ok (.getfield 25, 3) := by decide +kernel
theorem d_X12_go_196 : decode cX12_go 196 = .ok (.invokevirtual 48, 3) := by decide +kernel
theorem d_X12_go_199 : decode cX12_go 199 = .ok (.invokestatic 38, 3) := by decide +kernel
theorem d_X12_go_202 : decode cX12_go 202 = .ok (.ifCond .eq 110, 3) := by decide +kernel
theorem d_X12_go_205 : decode cX12_go 205 = .ok (.aload_n 0, 1) := by decide +kernel
theorem d_X12_go_206 : decode cX12_go 206 = .ok (.getfield 11, 3) := by decide +kernel
theorem d_X12_go_209 : decode cX12_go 209 = .ok (.aload_n 0, 1) := by decide +kernel
theorem d_X12_go_210 : decode cX12_go 210 = .ok (.getfield 25, 3) := by decide +kernel
theorem d_X12_go_213 : decode cX12_go 213 = .ok (.iaload, 1) := by decide +kernel
theorem d_X12_go_214 : decode cX12_go 214 = .ok (.istore 4, 2) := by decide +kernel
theorem d_X12_go_216 : decode cX12_go 216 = .ok (.iload_n 3, 1) := by decide +kernel
theorem d_X12_go_217 : decode cX12_go 217 = .ok (.ifCond .eq 16, 3) := by decide +kernel
theorem d_X12_go_220 : decode cX12_go 220 = .ok (.iload 4, 2) := by decide +kernel
theorem d_X12_go_222 : decode cX12_go 222 = .ok (.invokestatic 34, 3) := by decide +kernel
theorem d_X12_go_225 : decode cX12_go 225 = .ok (.iload_n 2, 1) := by decide +kernel
theorem d_X12_go_226 : decode cX12_go 226 = .ok (.if_icmp .ne 7, 3) := by decide +kernel
theorem d_X12_go_229 : decode cX12_go 229 = .ok (.iconst 1, 1) := by decide +kernel
theorem d_X12_go_230 : decode cX12_go 230 = .ok (.goto 4, 3) := by decide +kernel
theorem d_X12_go_233 : decode cX12_go 233 = .ok (.iconst 0, 1) := by decide +kernel
theorem d_X12_go_234 : decode cX12_go 234 = .ok (.istore_n 3, 1) := by decide +kernel
theorem d_X12_go_235 : decode cX12_go 235 = .ok (.aload_n 0, 1) := by decide +kernel
theorem d_X12_go_236 : decode cX12_go 236 = .ok (.getfield 25, 3) := by decide +kernel
theorem d_X12_go_239 : decode cX12_go 239 = .ok (.aload_n 0, 1) := by decide +kernel
theorem d_X12_go_240 : decode cX12_go 240 = .ok (.getfield 28, 3) := by decide +kernel
theorem d_X12_go_243 : decode cX12_go 243 = .ok (.isub, 1) := by decide +kernel
theorem d_X12_go_244 : decode cX12_go 244 = .ok (.bipush 7, 2) := by decide +kernel
theorem d_X12_go_246 : decode cX12_go 246 = .ok (.if_icmp .ge 23, 3) := by decide +kernel
theorem d_X12_go_249 : decode cX12_go 249 = .ok (.aload_n 0, 1) := by decide +kernel
theorem d_X12_go_250 : decode cX12_go 250 = .ok (.ldc2_w 52, 3) := by decide +kernel
theorem d_X12_go_253 : decode cX12_go 253 = .ok (.aload_n 0, 1) := by decide +kernel
theorem d_X12_go_254 : decode cX12_go 254 = .ok (.getfield 41, 3) := by decide +kernel
theorem d_X12_go_257 : decode cX12_go 257 = .ok (.lmul, 1) := by decide +kernel
theorem d_X12_go_258 : decode cX12_go 258 = .ok (.iload 4, 2) := by decide +kernel
theorem d_X12_go_260 : decode cX12_go 260 = .ok (.i2l, 1) := by decide +kernel
theorem d_X12_go_261 : decode cX12_go 261 = .ok (.ladd, 1) := by decide +kernel
theorem d_X12_go_262 : decode cX12_go 262 = .ok (.ldc2_w 54, 3) := by decide +kernel
theorem d_X12_go_265 : decode cX12_go 265 = .ok (.lsub, 1) := by decide +kernel
theorem d_X12_go_266 : decode cX12_go 266 = .ok (.putfield 41, 3) := by decide +kernel
theorem d_X12_go_269 : decode cX12_go 269 = .ok (.aload_n 0, 1) := by decide +kernel
theorem d_X12_go_270 : decode cX12_go 270 = .ok (.getfield 25, 3) := by decide +kernel
theorem d_X12_go_273 : decode cX12_go 273 = .ok (.aload_n 0, 1) := by decide +kernel
theorem d_X12_go_274 : decode cX12_go 274 = .ok (.getfield 28, 3) := by decide +kernel
theorem d_X12_go_277 : decode cX12_go 277 = .ok (.isub, 1) := by decide +kernel
theorem d_X12_go_278 : decode cX12_go 278 = .ok (.iconst 2, 1) := by decide +kernel
theorem d_X12_go_279 : decode cX12_go 279 = .ok (.if_icmp .ge 20, 3) := by decide +kernel
theorem d_X12_go_282 : decode cX12_go 282 = .ok (.aload_n 0, 1) := by decide +kernel
theorem d_X12_go_283 : decode cX12_go 283 = .ok (.bipush 10, 2) := by decide +kernel
theorem d_X12_go_285 : decode cX12_go 285 = .ok (.aload_n 0, 1) := by decide +kernel
theorem d_X12_go_286 : decode cX12_go 286 = .ok (.getfield 45, 3) := by decide +kernel
theorem d_X12_go_289 : decode cX12_go 289 = .ok (.imul, 1) := by decide +kernel
theorem d_X12_go_290 : decode cX12_go 290 = .ok (.iload 4, 2) := by decide +kernel
theorem d_X12_go_292 : decode cX12_go 292 = .ok (.iadd, 1) := by decide +kernel
theorem d_X12_go_293 : decode cX12_go 293 = .ok (.bipush 48, 2) := by decide +kernel
theorem d_X12_go_295 : decode cX12_go 295 = .ok (.isub, 1) := by decide +kernel
theorem d_X12_go_296 : decode cX12_go 296 = .ok (.putfield 45, 3) := by decide +kernel
theorem d_X12_go_299 : decode cX12_go 299 = .ok (.aload_n 0, 1) := by decide +kernel
theorem d_X12_go_300 : decode cX12_go 300 = .ok (.dup, 1) := by decide +kernel
theorem d_X12_go_301 : decode cX12_go 301 = .ok (.getfield 25, 3) := by decide +kernel
theorem d_X12_go_304 : decode cX12_go 304 = .ok (.iconst 1, 1) := by decide +kernel
theorem d_X12_go_305 : decode cX12_go 305 = .ok (.iadd, 1) := by decide +kernel
theorem d_X12_go_306 : decode cX12_go 306 = .ok (.putfield 25, 3) := by decide +kernel
theorem d_X12_go_309 : decode cX12_go 309 = .ok (.goto (-132), 3) := by decide +kernel
theorem d_X12_go_312 : decode cX12_go 312 = .ok (.aload_n 0, 1) := by decide +kernel
theorem d_X12_go_313 : decode cX12_go 313 = .ok (.iload_n 3, 1) := by decide +kernel
theorem d_X12_go_314 : decode cX12_go 314 = .ok (.ifCond .eq 25, 3) := by decide +kernel
theorem d_X12_go_317 : decode cX12_go 317 = .ok (.aload_n 0, 1) := by decide +kernel
theorem d_X12_go_318 : decode cX12_go 318 = .ok (.getfield 25, 3) := by decide +kernel
theorem d_X12_go_321 : decode cX12_go 321 = .ok (.aload_n 0, 1) := by decide +kernel
theorem d_X12_go_322 : decode cX12_go 322 = .ok (.getfield 28, 3) := by decide +kernel
theorem d_X12_go_325 : decode cX12_go 325 = .ok (.isub, 1) := by decide +kernel
theorem d_X12_go_326 : decode cX12_go 326 = .ok (.iload_n 2, 1) := by decide +kernel
theorem d_X12_go_327 : decode cX12_go 327 = .ok (.ifCond .eq 8, 3) := by decide +kernel
theorem d_X12_go_330 : decode cX12_go 330 = .ok (.bipush 7, 2) := by decide +kernel
theorem d_X12_go_332 : decode cX12_go 332 = .ok (.goto 4, 3) := by decide +kernel
theorem d_X12_go_335 : decode cX12_go 335 = .ok (.iconst 2, 1) := by decide +kernel
theorem d_X12_go_336 : decode cX12_go 336 = .ok (.if_icmp .le 7, 3) := by decide +kernel
theorem d_X12_go_339 : decode cX12_go 339 = .ok (.iconst 1, 1) := by decide +kernel
theorem d_X12_go_340 : decode cX12_go 340 = .ok (.goto 12, 3) := by decide +kernel
theorem d_X12_go_343 : decode cX12_go 343 = .ok (.iload_n 2, 1) := by decide +kernel
theorem d_X12_go_344 : decode cX12_go 344 = .ok (.ifCond .eq 7, 3) := by decide +kernel
theorem d_X12_go_347 : decode cX12_go 347 = .ok (.iconst 2, 1) := by decide +kernel
theorem d_X12_go_348 : decode cX12_go 348 = .ok (.goto 4, 3) := by decide +kernel
theorem d_X12_go_351 : decode cX12_go 351 = .ok (.iconst 3, 1) := by decide +kernel
theorem d_X12_go_352 : decode cX12_go 352 = .ok (.putfield 31, 3) := by decide +kernel
theorem d_X12_go_355 : decode cX12_go 355 = .ok (.return_, 1) := by decide +kernel
theorem d_X12_copy_0 : decode cX12_copy 0 = .ok (.iconst 0, 1) := by decide +kernel
theorem d_X12_copy_1 : decode cX12_copy 1 = .ok (.istore 4, 2) := by decide +kernel
theorem d_X12_copy_3 : decode cX12_copy 3 = .ok (.iload 4, 2) := by decide +kernel
theorem d_X12_copy_5 : decode cX12_copy 5 = .ok (.sipush 147, 3) := by decide +kernel
theorem d_X12_copy_8 : decode cX12_copy 8 = .ok (.if_icmp .ge 21, 3) := by decide +kernel
theorem d_X12_copy_11 : decode cX12_copy 11 = .ok (.aload_n 2, 1) := by decide +kernel
theorem d_X12_copy_12 : decode cX12_copy 12 = .ok (.iload_n 3, 1) := by decide +kernel
theorem d_X12_copy_13 : decode cX12_copy 13 = .ok (.iload 4, 2) := by decide +kernel
theorem d_X12_copy_15 : decode cX12_copy 15 = .ok (.iadd, 1) := by decide +kernel
theorem d_X12_copy_16 : decode cX12_copy 16 = .ok (.aload_n 0, 1) := by decide +kernel
theorem d_X12_copy_17 : decode cX12_copy 17 = .ok (.iload_n 1, 1) := by decide +kernel
theorem d_X12_copy_18 : decode cX12_copy 18 = .ok (.iload 4, 2) := by decide +kernel
theorem d_X12_copy_20 : decode cX12_copy 20 = .ok (.iadd, 1) := by decide +kernel
theorem d_X12_copy_21 : decode cX12_copy 21 = .ok (.iaload, 1) := by decide +kernel
theorem d_X12_copy_22 : decode cX12_copy 22 = .ok (.iastore, 1) := by decide +kernel
theorem d_X12_copy_23 : decode cX12_copy 23 = .ok (.iinc 4 1, 3) := by decide +kernel
theorem d_X12_copy_26 : decode cX12_copy 26 = .ok (.goto (-23), 3) := by decide +kernel
theorem d_X12_copy_29 : decode cX12_copy 29 = .ok (.return_, 1) := by decide +kernel
theorem d_X12_spelt_0 : decode cX12_spelt 0 = .ok (.ldc2_w 52, 3) := by decide +kernel
theorem d_X12_spelt_3 : decode cX12_spelt 3 = .ok (.ldc2_w 52, 3) := by decide +kernel
theorem d_X12_spelt_6 : decode cX12_spelt 6 = .ok (.ldc2_w 52, 3) := by decide +kernel
theorem d_X12_spelt_9 : decode cX12_spelt 9 = .ok (.iload_n 0, 1) := by decide +kernel
theorem d_X12_spelt_10 : decode cX12_spelt 10 = .ok (.i2l, 1) := by decide +kernel
theorem d_X12_spelt_11 : decode cX12_spelt 11 = .ok (.ldc2_w 54, 3) := by decide +kernel
theorem d_X12_spelt_14 : decode cX12_spelt 14 = .ok (.lsub, 1) := by decide +kernel
theorem d_X12_spelt_15 : decode cX12_spelt 15 = .ok (.lmul, 1) := by decide +kernel
theorem d_X12_spelt_16 : decode cX12_spelt 16 = .ok (.iload_n 1, 1) := by decide +kernel
theorem d_X12_spelt_17 : decode cX12_spelt 17 = .ok (.i2l, 1) := by decide +kernel
theorem d_X12_spelt_18 : decode cX12_spelt 18 = .ok (.ladd, 1) := by decide +kernel
theorem d_X12_spelt_19 : decode cX12_spelt 19 = .ok (.ldc2_w 54, 3) := by decide +kernel
theorem d_X12_spelt_22 : decode cX12_spelt 22 = .ok (.lsub, 1) := by decide +kernel
theorem d_X12_spelt_23 : decode cX12_spelt 23 = .ok (.lmul, 1) := by decide +kernel
theorem d_X12_spelt_24 : decode cX12_spelt 24 = .ok (.iload_n 2, 1) := by decide +kernel
theorem d_X12_spelt_25 : decode cX12_spelt 25 = .ok (.i2l, 1) := by decide +kernel
theorem d_X12_spelt_26 : decode cX12_spelt 26 = .ok (.ladd, 1) := by decide +kernel
theorem d_X12_spelt_27 : decode cX12_spelt 27 = .ok (.ldc2_w 54, 3) := by decide +kernel
theorem d_X12_spelt_30 : decode cX12_spelt 30 = .ok (.lsub, 1) := by decide +kernel
theorem d_X12_spelt_31 : decode cX12_spelt 31 = .ok (.lmul, 1) := by decide +kernel
theorem d_X12_spelt_32 : decode cX12_spelt 32 = .ok (.iload_n 3, 1) := by decide +kernel
theorem d_X12_spelt_33 : decode cX12_spelt 33 = .ok (.i2l, 1) := by decide +kernel
theorem d_X12_spelt_34 : decode cX12_spelt 34 = .ok (.ladd, 1) := by decide +kernel
theorem d_X12_spelt_35 : decode cX12_spelt 35 = .ok (.ldc2_w 54, 3) := by decide +kernel
theorem d_X12_spelt_38 : decode cX12_spelt 38 = .ok (.lsub, 1) := by decide +kernel
theorem d_X12_spelt_39 : decode cX12_spelt 39 = .ok (.lstore 7, 2) := by decide +kernel
theorem d_X12_spelt_41 : decode cX12_spelt 41 = .ok (.iload 4, 2) := by decide +kernel
theorem d_X12_spelt_43 : decode cX12_spelt 43 = .ok (.ifCond .le 19, 3) := by decide +kernel
theorem d_X12_spelt_46 : decode cX12_spelt 46 = .ok (.ldc2_w 52, 3) := by decide +kernel
theorem d_X12_spelt_49 : decode cX12_spelt 49 = .ok (.lload 7, 2) := by decide +kernel
theorem d_X12_spelt_51 : decode cX12_spelt 51 = .ok (.lmul, 1) := by decide +kernel
theorem d_X12_spelt_52 : decode cX12_spelt 52 = .ok (.iload 4, 2) := by decide +kernel
theorem d_X12_spelt_54 : decode cX12_spelt 54 = .ok (.i2l, 1) := by decide +kernel
theorem d_X12_spelt_55 : decode cX12_spelt 55 = .ok (.ladd, 1) := by decide +kernel
theorem d_X12_spelt_56 : decode cX12_spelt 56 = .ok (.ldc2_w 54, 3) := by decide +kernel
theorem d_X12_spelt_59 : decode cX12_spelt 59 = .ok (.lsub, 1) := by decide +kernel
theorem d_X12_spelt_60 : decode cX12_spelt 60 = .ok (.lstore 7, 2) := by decide +kernel
theorem d_X12_spelt_62 : decode cX12_spelt 62 = .ok (.iload 5, 2) := by decide +kernel
theorem d_X12_spelt_64 : decode cX12_spelt 64 = .ok (.ifCond .le 19, 3) := by decide +kernel
theorem d_X12_spelt_67 : decode cX12_spelt 67 = .ok (.ldc2_w 52, 3) := by decide +kernel
theorem d_X12_spelt_70 : decode cX12_spelt 70 = .ok (.lload 7, 2) := by decide +kernel
theorem d_X12_spelt_72 : decode cX12_spelt 72 = .ok (.lmul, 1) := by decide +kernel
theorem d_X12_spelt_73 : decode cX12_spelt 73 = .ok (.iload 5, 2) := by decide +kernel
theorem d_X12_spelt_75 : decode cX12_spelt 75 = .ok (.i2l, 1) := by decide +kernel
theorem d_X12_spelt_76 : decode cX12_spelt 76 = .ok (.ladd, 1) := by decide +kernel
theorem d_X12_spelt_77 : decode cX12_spelt 77 = .ok (.ldc2_w 54, 3) := by decide +kernel
theorem d_X12_spelt_80 : decode cX12_spelt 80 = .ok (.lsub, 1) := by decide +kernel
theorem d_X12_spelt_81 : decode cX12_spelt 81 = .ok (.lstore 7, 2) := by decide +kernel
theorem d_X12_spelt_83 : decode cX12_spelt 83 = .ok (.iload 6, 2) := by decide +kernel
theorem d_X12_spelt_85 : decode cX12_spelt 85 = .ok (.ifCond .le 19, 3) := by decide +kernel
theorem d_X12_spelt_88 : decode cX12_spelt 88 = .ok (.ldc2_w 52, 3) := by decide +kernel
theorem d_X12_spelt_91 : decode cX12_spelt 91 = .ok (.lload 7, 2) := by decide +kernel
theorem d_X12_spelt_93 : decode cX12_spelt 93 = .ok (.lmul, 1) := by decide +kernel
theorem d_X12_spelt_94 : decode cX12_spelt 94 = .ok (.iload 6, 2) := by decide +kernel
theorem d_X12_spelt_96 : decode cX12_spelt 96 = .ok (.i2l, 1) := by decide +kernel
theorem d_X12_spelt_97 : decode cX12_spelt 97 = .ok (.ladd, 1) := by decide +kernel
theorem d_X12_spelt_98 : decode cX12_spelt 98 = .ok (.ldc2_w 54, 3) := by decide +kernel
theorem d_X12_spelt_101 : decode cX12_spelt 101 = .ok (.lsub, 1) := by decide +kernel
theorem d_X12_spelt_102 : decode cX12_spelt 102 = .ok (.lstore 7, 2) := by decide +kernel
theorem d_X12_spelt_104 : decode cX12_spelt 104 = .ok (.lload 7, 2) := by decide +kernel
theorem d_X12_spelt_106 : decode cX12_spelt 106 = .ok (.lreturn, 1) := by decide +kernel
theorem d_X12_isWord_0 : decode cX12_isWord 0 = .ok (.aload_n 0, 1) := by decide +kernel
theorem d_X12_isWord_1 : decode cX12_isWord 1 = .ok (.getfield 31, 3) := by decide +kernel
theorem d_X12_isWord_4 : decode cX12_isWord 4 = .ok (.iconst 2, 1) := by decide +kernel
theorem d_X12_isWord_5 : decode cX12_isWord 5 = .ok (.if_icmp .ne 16, 3) := by decide +kernel
theorem d_X12_isWord_8 : decode cX12_isWord 8 = .ok (.aload_n 0, 1) := by decide +kernel
theorem d_X12_isWord_9 : decode cX12_isWord 9 = .ok (.getfield 41, 3) := by decide +kernel
theorem d_X12_isWord_12 : decode cX12_isWord 12 = .ok (.lload_n 1, 1) := by decide +kernel
theorem d_X12_isWord_13 : decode cX12_isWord 13 = .ok (.lcmp, 1) := by decide +kernel
theorem d_X12_isWord_14 : decode cX12_isWord 14 = .ok (.ifCond .ne 7, 3) := by decide +kernel
theorem d_X12_isWord_17 : decode cX12_isWord 17 = .ok (.iconst 1, 1) := by decide +kernel
theorem d_X12_isWord_18 : decode cX12_isWord 18 = .ok (.goto 4, 3) := by decide +kernel
theorem d_X12_isWord_21 : decode cX12_isWord 21 = .ok (.iconst 0, 1) := by decide +kernel
theorem d_X12_isWord_22 : decode cX12_isWord 22 = .ok (.ireturn, 1) := by decide +kernel
theorem d_X12_isPointWord_0 : decode cX12_isPointWord 0 = .ok (.aload_n 0, 1) := by decide +kernel
theorem d_X12_isPointWord_1 : decode cX12_isPointWord 1 = .ok (.bipush 112, 2) := by decide +kernel
theorem d_X12_isPointWord_3 : decode cX12_isPointWord 3 = .ok (.bipush 111, 2) := by decide +kernel
theorem d_X12_isPointWord_5 : decode cX12_isPointWord 5 = .ok (.bipush 105, 2) := by decide +kernel
theorem d_X12_isPointWord_7 : decode cX12_isPointWord 7 = .ok (.bipush 110, 2) := by decide +kernel
theorem d_X12_isPointWord_9 : decode cX12_isPointWord 9 = .ok (.bipush 116, 2) := by decide +kernel
theorem d_X12_isPointWord_11 : decode cX12_isPointWord 11 = .ok (.iconst 0, 1) := by decide +kernel
theorem d_X12_isPointWord_12 : decode cX12_isPointWord 12 = .ok (.iconst 0, 1) := by decide +kernel
theorem d_X12_isPointWord_13 : decode cX12_isPointWord 13 = .ok (.invokestatic 56, 3) := by decide +kernel
theorem d_X12_isPointWord_16 : decode cX12_isPointWord 16 = .ok (.invokevirtual 60, 3) := by decide +kernel
theorem d_X12_isPointWord_19 : decode cX12_isPointWord 19 = .ok (.ireturn, 1) := by decide +kernel
theorem d_X12_isLineWord_0 : decode cX12_isLineWord 0 = .ok (.aload_n 0, 1) := by decide +kernel
theorem d_X12_isLineWord_1 : decode cX12_isLineWord 1 = .ok (.bipush 108, 2) := by decide +kernel
theorem d_X12_isLineWord_3 : decode cX12_isLineWord 3 = .ok (.bipush 105, 2) := by decide +kernel
theorem d_X12_isLineWord_5 : decode cX12_isLineWord 5 = .ok (.bipush 110, 2) := by decide +kernel
theorem d_X12_isLineWord_7 : decode cX12_isLineWord 7 = .ok (.bipush 101, 2) := by decide +kernel
theorem d_X12_isLineWord_9 : decode cX12_isLineWord 9 = .ok (.iconst 0, 1) := by decide +kernel
theorem d_X12_isLineWord_10 : decode cX12_isLineWord 10 = .ok (.iconst 0, 1) := by decide +kernel
theorem d_X12_isLineWord_11 : decode cX12_isLineWord 11 = .ok (.iconst 0, 1) := by decide +kernel
theorem d_X12_isLineWord_12 : decode cX12_isLineWord 12 = .ok (.invokestatic 56, 3) := by decide +kernel
theorem d_X12_isLineWord_15 : decode cX12_isLineWord 15 = .ok (.invokevirtual 60, 3) := by decide +kernel
theorem d_X12_isLineWord_18 : decode cX12_isLineWord 18 = .ok (.ireturn, 1) := by decide +kernel
theorem d_X12_isForestsWord_0 : decode cX12_isForestsWord 0 = .ok (.aload_n 0, 1) := by decide +kernel
theorem d_X12_isForestsWord_1 : decode cX12_isForestsWord 1 = .ok (.bipush 102, 2) := by decide +kernel
theorem d_X12_isForestsWord_3 : decode cX12_isForestsWord 3 = .ok (.bipush 111, 2) := by decide +kernel
theorem d_X12_isForestsWord_5 : decode cX12_isForestsWord 5 = .ok (.bipush 114, 2) := by decide +kernel
theorem d_X12_isForestsWord_7 : decode cX12_isForestsWord 7 = .ok (.bipush 101, 2) := by decide +kernel
theorem d_X12_isForestsWord_9 : decode cX12_isForestsWord 9 = .ok (.bipush 115, 2) := by decide +kernel
theorem d_X12_isForestsWord_11 : decode cX12_isForestsWord 11 = .ok (.bipush 116, 2) := by decide +kernel
theorem d_X12_isForestsWord_13 : decode cX12_isForestsWord 13 = .ok (.bipush 115, 2) := by decide +kernel
theorem d_X12_isForestsWord_15 : decode cX12_isForestsWord 15 = .ok (.invokestatic 56, 3) := by decide +kernel
theorem d_X12_isForestsWord_18 : decode cX12_isForestsWord 18 = .ok (.invokevirtual 60, 3) := by decide +kernel
theorem d_X12_isForestsWord_21 : decode cX12_isForestsWord 21 = .ok (.ireturn, 1) := by decide +kernel
theorem d_X12_bad_0 : decode cX12_bad 0 = .ok (.aload_n 0, 1) := by decide +kernel
theorem d_X12_bad_1 : decode cX12_bad 1 = .ok (.aload_n 0, 1) := by decide +kernel
theorem d_X12_bad_2 : decode cX12_bad 2 = .ok (.getfield 31, 3) := by decide +kernel
theorem d_X12_bad_5 : decode cX12_bad 5 = .ok (.iconst 1, 1) := by decide +kernel
theorem d_X12_bad_6 : decode cX12_bad 6 = .ok (.if_icmp .ne 7, 3) := by decide +kernel
theorem d_X12_bad_9 : decode cX12_bad 9 = .ok (.iconst 1, 1) := by decide +kernel
theorem d_X12_bad_10 : decode cX12_bad 10 = .ok (.goto 4, 3) := by decide +kernel
theorem d_X12_bad_13 : decode cX12_bad 13 = .ok (.iload_n 1, 1) := by decide +kernel
theorem d_X12_bad_14 : decode cX12_bad 14 = .ok (.putfield 74, 3) := by decide +kernel
theorem d_X12_bad_17 : decode cX12_bad 17 = .ok (.aload_n 0, 1) := by decide +kernel
theorem d_X12_bad_18 : decode cX12_bad 18 = .ok (.aload_n 0, 1) := by decide +kernel
theorem d_X12_bad_19 : decode cX12_bad 19 = .ok (.getfield 28, 3) := by decide +kernel
theorem d_X12_bad_22 : decode cX12_bad 22 = .ok (.putfield 77, 3) := by decide +kernel
theorem d_X12_bad_25 : decode cX12_bad 25 = .ok (.iconst 0, 1) := by decide +kernel
theorem d_X12_bad_26 : decode cX12_bad 26 = .ok (.ireturn, 1) := by decide +kernel
theorem d_X12_isIn_0 : decode cX12_isIn 0 = .ok (.iload_n 0, 1) := by decide +kernel
theorem d_X12_isIn_1 : decode cX12_isIn 1 = .ok (.iload_n 1, 1) := by decide +kernel
theorem d_X12_isIn_2 : decode cX12_isIn 2 = .ok (.if_icmp .lt 12, 3) := by decide +kernel
theorem d_X12_isIn_5 : decode cX12_isIn 5 = .ok (.iload_n 0, 1) := by decide +kernel
theorem d_X12_isIn_6 : decode cX12_isIn 6 = .ok (.iload_n 2, 1) := by decide +kernel
theorem d_X12_isIn_7 : decode cX12_isIn 7 = .ok (.if_icmp .gt 7, 3) := by decide +kernel
theorem d_X12_isIn_10 : decode cX12_isIn 10 = .ok (.iconst 1, 1) := by decide +kernel
theorem d_X12_isIn_11 : decode cX12_isIn 11 = .ok (.goto 4, 3) := by decide +kernel
theorem d_X12_isIn_14 : decode cX12_isIn 14 = .ok (.iconst 0, 1) := by decide +kernel
theorem d_X12_isIn_15 : decode cX12_isIn 15 = .ok (.ireturn, 1) := by decide +kernel
theorem d_X12_readNumber_0 : decode cX12_readNumber 0 = .ok (.aload_n 0, 1) := by decide +kernel
theorem d_X12_readNumber_1 : decode cX12_readNumber 1 = .ok (.getfield 31, 3) := by decide +kernel
theorem d_X12_readNumber_4 : decode cX12_readNumber 4 = .ok (.iconst 3, 1) := by decide +kernel
theorem d_X12_readNumber_5 : decode cX12_readNumber 5 = .ok (.if_icmp .eq 9, 3) := by decide +kernel
theorem d_X12_readNumber_8 : decode cX12_readNumber 8 = .ok (.aload_n 0, 1) := by decide +kernel
theorem d_X12_readNumber_9 : decode cX12_readNumber 9 = .ok (.iconst 1, 1) := by decide +kernel
theorem d_X12_readNumber_10 : decode cX12_readNumber 10 = .ok (.invokevirtual 80, 3) := by decide +kernel
theorem d_X12_readNumber_13 : decode cX12_readNumber 13 = .ok (.ireturn, 1) := by decide +kernel
theorem d_X12_readNumber_14 : decode cX12_readNumber 14 = .ok (.aload_n 0, 1) := by decide +kernel
theorem d_X12_readNumber_15 : decode cX12_readNumber 15 = .ok (.getfield 45, 3) := by decide +kernel
theorem d_X12_readNumber_18 : decode cX12_readNumber 18 = .ok (.iload_n 1, 1) := by decide +kernel
theorem d_X12_readNumber_19 : decode cX12_readNumber 19 = .ok (.iload_n 2, 1) := by decide +kernel
theorem d_X12_readNumber_20 : decode cX12_readNumber 20 = .ok (.invokestatic 83, 3) := by decide +kernel
theorem d_X12_readNumber_23 : decode cX12_readNumber 23 = .ok (.ifCond .ne 9, 3) := by decide +kernel
theorem d_X12_readNumber_26 : decode cX12_readNumber 26 = .ok (.aload_n 0, 1) := by decide +kernel
theorem d_X12_readNumber_27 : decode cX12_readNumber 27 = .ok (.iconst 2, 1) := by decide +kernel
theorem d_X12_readNumber_28 : decode cX12_readNumber 28 = .ok (.invokevirtual 80, 3) := by decide +kernel
theorem d_X12_readNumber_31 : decode cX12_readNumber 31 = .ok (.ireturn, 1) := by decide +kernel
theorem d_X12_readNumber_32 : decode cX12_readNumber 32 = .ok (.aload_n 0, 1) := by decide +kernel
theorem d_X12_readNumber_33 : decode cX12_readNumber 33 = .ok (.aload_n 0, 1) := by decide +kernel
theorem d_X12_readNumber_34 : decode cX12_readNumber 34 = .ok (.getfield 45, 3) := by decide +kernel
theorem d_X12_readNumber_37 : decode cX12_readNumber 37 = .ok (.putfield 87, 3) := by decide +kernel
theorem d_X12_readNumber_40 : decode cX12_readNumber 40 = .ok (.aload_n 0, 1) := by decide +kernel
theorem d_X12_readNumber_41 : decode cX12_readNumber 41 = .ok (.invokevirtual 90, 3) := by decide +kernel
theorem d_X12_readNumber_44 : decode cX12_readNumber 44 = .ok (.iconst 1, 1) := by decide +kernel
theorem d_X12_readNumber_45 : decode cX12_readNumber 45 = .ok (.ireturn, 1) := by decide +kernel
theorem d_X12_readForests_0 : decode cX12_readForests 0 = .ok (.aload_n 0, 1) := by decide +kernel
theorem d_X12_readForests_1 : decode cX12_readForests 1 = .ok (.getfield 102, 3) := by decide +kernel
theorem d_X12_readForests_4 : decode cX12_readForests 4 = .ok (.iconst 2, 1) := by decide +kernel
theorem d_X12_readForests_5 : decode cX12_readForests 5 = .ok (.iaload, 1) := by decide +kernel
theorem d_X12_readForests_6 : decode cX12_readForests 6 = .ok (.ifCond .eq 9, 3) := by decide +kernel
theorem d_X12_readForests_9 : decode cX12_readForests 9 = .ok (.aload_n 0, 1) := by decide +kernel
theorem d_X12_readForests_10 : decode cX12_readForests 10 = .ok (.iconst 3, 1) := by decide +kernel
theorem d_X12_readForests_11 : decode cX12_readForests 11 = .ok (.invokevirtual 80, 3) := by decide +kernel
theorem d_X12_readForests_14 : decode cX12_readForests 14 = .ok (.ireturn, 1) := by decide +kernel
theorem d_X12_readForests_15 : decode cX12_readForests 15 = .ok (.aload_n 0, 1) := by decide +kernel
theorem d_X12_readForests_16 : decode cX12_readForests 16 = .ok (.invokevirtual 90, 3) := by decide +kernel
theorem d_X12_readForests_19 : decode cX12_readForests 19 = .ok (.aload_n 0, 1) := by decide +kernel
theorem d_X12_readForests_20 : decode cX12_readForests 20 = .ok (.iconst 1, 1) := by decide +kernel
theorem d_X12_readForests_21 : decode cX12_readForests 21 = .ok (.iconst 5, 1) := by decide +kernel
theorem d_X12_readForests_22 : decode cX12_readForests 22 = .ok (.invokevirtual 168, 3) := by decide +kernel
theorem d_X12_readForests_25 : decode cX12_readForests 25 = .ok (.ifCond .ne 5, 3) := by decide +kernel
theorem d_X12_readForests_28 : decode cX12_readForests 28 = .ok (.iconst 0, 1) := by decide +kernel
theorem d_X12_readForests_29 : decode cX12_readForests 29 = .ok (.ireturn, 1) := by decide +kernel
theorem d_X12_readForests_30 : decode cX12_readForests 30 = .ok (.aload_n 0, 1) := by decide +kernel
theorem d_X12_readForests_31 : decode cX12_readForests 31 = .ok (.getfield 102, 3) := by decide +kernel
theorem d_X12_readForests_34 : decode cX12_readForests 34 = .ok (.iconst 2, 1) := by decide +kernel
theorem d_X12_readForests_35 : decode cX12_readForests 35 = .ok (.aload_n 0, 1) := by decide +kernel
theorem d_X12_readForests_36 : decode cX12_readForests 36 = .ok (.getfield 87, 3) := by decide +kernel
theorem d_X12_readForests_39 : decode cX12_readForests 39 = .ok (.iastore, 1) := by decide +kernel
theorem d_X12_readForests_40 : decode cX12_readForests 40 = .ok (.iconst 1, 1) := by decide +kernel
theorem d_X12_readForests_41 : decode cX12_readForests 41 = .ok (.ireturn, 1) := by decide +kernel
theorem d_X12_isName_0 : decode cX12_isName 0 = .ok (.aload_n 0, 1) := by decide +kernel
theorem d_X12_isName_1 : decode cX12_isName 1 = .ok (.getfield 31, 3) := by decide +kernel
theorem d_X12_isName_4 : decode cX12_isName 4 = .ok (.iconst 2, 1) := by decide +kernel
theorem d_X12_isName_5 : decode cX12_isName 5 = .ok (.if_icmp .ne 28, 3) := by decide +kernel
theorem d_X12_isName_8 : decode cX12_isName 8 = .ok (.aload_n 0, 1) := by decide +kernel
theorem d_X12_isName_9 : decode cX12_isName 9 = .ok (.invokevirtual 64, 3) := by decide +kernel
theorem d_X12_isName_12 : decode cX12_isName 12 = .ok (.ifCond .ne 21, 3) := by decide +kernel
theorem d_X12_isName_15 : decode cX12_isName 15 = .ok (.aload_n 0, 1) := by decide +kernel
theorem d_X12_isName_16 : decode cX12_isName 16 = .ok (.invokevirtual 68, 3) := by decide +kernel
theorem d_X12_isName_19 : decode cX12_isName 19 = .ok (.ifCond .ne 14, 3) := by decide +kernel
theorem d_X12_isName_22 : decode cX12_isName 22 = .ok (.aload_n 0, 1) := by decide +kernel
theorem d_X12_isName_23 : decode cX12_isName 23 = .ok (.invokevirtual 71, 3) := by decide +kernel
theorem d_X12_isName_26 : decode cX12_isName 26 = .ok (.ifCond .ne 7, 3) := by decide +kernel
theorem d_X12_isName_29 : decode cX12_isName 29 = .ok (.iconst 1, 1) := by decide +kernel
theorem d_X12_isName_30 : decode cX12_isName 30 = .ok (.goto 4, 3) := by decide +kernel
theorem d_X12_isName_33 : decode cX12_isName 33 = .ok (.iconst 0, 1) := by decide +kernel
theorem d_X12_isName_34 : decode cX12_isName 34 = .ok (.ireturn, 1) := by decide +kernel
theorem d_X12_named_0 : decode cX12_named 0 = .ok (.iconst 0, 1) := by decide +kernel
theorem d_X12_named_1 : decode cX12_named 1 = .ok (.istore_n 1, 1) := by decide +kernel
theorem d_X12_named_2 : decode cX12_named 2 = .ok (.iload_n 1, 1) := by decide +kernel
theorem d_X12_named_3 : decode cX12_named 3 = .ok (.aload_n 0, 1) := by decide +kernel
theorem d_X12_named_4 : decode cX12_named 4 = .ok (.getfield 102, 3) := by decide +kernel
theorem d_X12_named_7 : decode cX12_named 7 = .ok (.iconst 0, 1) := by decide +kernel
theorem d_X12_named_8 : decode cX12_named 8 = .ok (.iaload, 1) := by decide +kernel
theorem d_X12_named_9 : decode cX12_named 9 = .ok (.if_icmp .ge 25, 3) := by decide +kernel
theorem d_X12_named_12 : decode cX12_named 12 = .ok (.aload_n 0, 1) := by decide +kernel
theorem d_X12_named_13 : decode cX12_named 13 = .ok (.getfield 117, 3) := by decide +kernel
theorem d_X12_named_16 : decode cX12_named 16 = .ok (.iload_n 1, 1) := by decide +kernel
theorem d_X12_named_17 : decode cX12_named 17 = .ok (.laload, 1) := by decide +kernel
theorem d_X12_named_18 : decode cX12_named 18 = .ok (.aload_n 0, 1) := by decide +kernel
theorem d_X12_named_19 : decode cX12_named 19 = .ok (.getfield 41, 3) := by decide +kernel
theorem d_X12_named_22 : decode cX12_named 22 = .ok (.lcmp, 1) := by decide +kernel
theorem d_X12_named_23 : decode cX12_named 23 = .ok (.ifCond .ne 5, 3) := by decide +kernel
theorem d_X12_named_26 : decode cX12_named 26 = .ok (.iload_n 1, 1) := by decide +kernel
theorem d_X12_named_27 : decode cX12_named 27 = .ok (.ireturn, 1) := by decide +kernel
theorem d_X12_named_28 : decode cX12_named 28 = .ok (.iinc 1 1, 3) := by decide +kernel
theorem d_X12_named_31 : decode cX12_named 31 = .ok (.goto (-29), 3) := by decide +kernel
theorem d_X12_named_34 : decode cX12_named 34 = .ok (.iconst (-1), 1) := by decide +kernel
theorem d_X12_named_35 : decode cX12_named 35 = .ok (.ireturn, 1) := by decide +kernel
theorem d_X12_readLine_0 : decode cX12_readLine 0 = .ok (.aload_n 0, 1) := by decide +kernel
theorem d_X12_readLine_1 : decode cX12_readLine 1 = .ok (.getfield 102, 3) := by decide +kernel
theorem d_X12_readLine_4 : decode cX12_readLine 4 = .ok (.iconst 1, 1) := by decide +kernel
theorem d_X12_readLine_5 : decode cX12_readLine 5 = .ok (.iaload, 1) := by decide +kernel
theorem d_X12_readLine_6 : decode cX12_readLine 6 = .ok (.istore_n 1, 1) := by decide +kernel
theorem d_X12_readLine_7 : decode cX12_readLine 7 = .ok (.iload_n 1, 1) := by decide +kernel
theorem d_X12_readLine_8 : decode cX12_readLine 8 = .ok (.bipush 24, 2) := by decide +kernel
theorem d_X12_readLine_10 : decode cX12_readLine 10 = .ok (.if_icmp .ne 9, 3) := by decide +kernel
theorem d_X12_readLine_13 : decode cX12_readLine 13 = .ok (.aload_n 0, 1) := by decide +kernel
theorem d_X12_readLine_14 : decode cX12_readLine 14 = .ok (.iconst 4, 1) := by decide +kernel
theorem d_X12_readLine_15 : decode cX12_readLine 15 = .ok (.invokevirtual 80, 3) := by decide +kernel
theorem d_X12_readLine_18 : decode cX12_readLine 18 = .ok (.ireturn, 1) := by decide +kernel
theorem d_X12_readLine_19 : decode cX12_readLine 19 = .ok (.aload_n 0, 1) := by decide +kernel
theorem d_X12_readLine_20 : decode cX12_readLine 20 = .ok (.invokevirtual 90, 3) := by decide +kernel
theorem d_X12_readLine_23 : decode cX12_readLine 23 = .ok (.aload_n 0, 1) := by decide +kernel
theorem d_X12_readLine_24 : decode cX12_readLine 24 = .ok (.invokevirtual 161, 3) := by decide +kernel
theorem d_X12_readLine_27 : decode cX12_readLine 27 = .ok (.ifCond .ne 9, 3) := by decide +kernel
theorem d_X12_readLine_30 : decode cX12_readLine 30 = .ok (.aload_n 0, 1) := by decide +kernel
theorem d_X12_readLine_31 : decode cX12_readLine 31 = .ok (.iconst 1, 1) := by decide +kernel
theorem d_X12_readLine_32 : decode cX12_readLine 32 = .ok (.invokevirtual 80, 3) := by decide +kernel
theorem d_X12_readLine_35 : decode cX12_readLine 35 = .ok (.ireturn, 1) := by decide +kernel
theorem d_X12_readLine_36 : decode cX12_readLine 36 = .ok (.aload_n 0, 1) := by decide +kernel
theorem d_X12_readLine_37 : decode cX12_readLine 37 = .ok (.invokevirtual 164, 3) := by decide +kernel
theorem d_X12_readLine_40 : decode cX12_readLine 40 = .ok (.istore_n 2, 1) := by decide +kernel
theorem d_X12_readLine_41 : decode cX12_readLine 41 = .ok (.iload_n 2, 1) := by decide +kernel
theorem d_X12_readLine_42 : decode cX12_readLine 42 = .ok (.iconst (-1), 1) := by decide +kernel
theorem d_X12_readLine_43 : decode cX12_readLine 43 = .ok (.if_icmp .ne 9, 3) := by decide +kernel
theorem d_X12_readLine_46 : decode cX12_readLine 46 = .ok (.aload_n 0, 1) := by decide +kernel
theorem d_X12_readLine_47 : decode cX12_readLine 47 = .ok (.iconst 3, 1) := by decide +kernel
theorem d_X12_readLine_48 : decode cX12_readLine 48 = .ok (.invokevirtual 80, 3) := by decide +kernel
theorem d_X12_readLine_51 : decode cX12_readLine 51 = .ok (.ireturn, 1) := by decide +kernel
theorem d_X12_readLine_52 : decode cX12_readLine 52 = .ok (.aload_n 0, 1) := by decide +kernel
theorem d_X12_readLine_53 : decode cX12_readLine 53 = .ok (.invokevirtual 90, 3) := by decide +kernel
theorem d_X12_readLine_56 : decode cX12_readLine 56 = .ok (.aload_n 0, 1) := by decide +kernel
theorem d_X12_readLine_57 : decode cX12_readLine 57 = .ok (.invokevirtual 161, 3) := by decide +kernel
theorem d_X12_readLine_60 : decode cX12_readLine 60 = .ok (.ifCond .ne 9, 3) := by decide +kernel
theorem d_X12_readLine_63 : decode cX12_readLine 63 = .ok (.aload_n 0, 1) := by decide +kernel
theorem d_X12_readLine_64 : decode cX12_readLine 64 = .ok (.iconst 1, 1) := by decide +kernel
theorem d_X12_readLine_65 : decode cX12_readLine 65 = .ok (.invokevirtual 80, 3) := by decide +kernel
theorem d_X12_readLine_68 : decode cX12_readLine 68 = .ok (.ireturn, 1) := by decide +kernel
theorem d_X12_readLine_69 : decode cX12_readLine 69 = .ok (.aload_n 0, 1) := by decide +kernel
theorem d_X12_readLine_70 : decode cX12_readLine 70 = .ok (.invokevirtual 164, 3) := by decide +kernel
theorem d_X12_readLine_73 : decode cX12_readLine 73 = .ok (.istore_n 3, 1) := by decide +kernel
theorem d_X12_readLine_74 : decode cX12_readLine 74 = .ok (.iload_n 3, 1) := by decide +kernel
theorem d_X12_readLine_75 : decode cX12_readLine 75 = .ok (.iconst (-1), 1) := by decide +kernel
theorem d_X12_readLine_76 : decode cX12_readLine 76 = .ok (.if_icmp .eq 8, 3) := by decide +kernel
theorem d_X12_readLine_79 : decode cX12_readLine 79 = .ok (.iload_n 3, 1) := by decide +kernel
theorem d_X12_readLine_80 : decode cX12_readLine 80 = .ok (.iload_n 2, 1) := by decide +kernel
theorem d_X12_readLine_81 : decode cX12_readLine 81 = .ok (.if_icmp .ne 9, 3) := by decide +kernel
theorem d_X12_readLine_84 : decode cX12_readLine 84 = .ok (.aload_n 0, 1) := by decide +kernel
theorem d_X12_readLine_85 : decode cX12_readLine 85 = .ok (.iconst 3, 1) := by decide +kernel
theorem d_X12_readLine_86 : decode cX12_readLine 86 = .ok (.invokevirtual 80, 3) := by decide +kernel
theorem d_X12_readLine_89 : decode cX12_readLine 89 = .ok (.ireturn, 1) := by decide +kernel
theorem d_X12_readLine_90 : decode cX12_readLine 90 = .ok (.aload_n 0, 1) := by decide +kernel
theorem d_X12_readLine_91 : decode cX12_readLine 91 = .ok (.invokevirtual 90, 3) := by decide +kernel
theorem d_X12_readLine_94 : decode cX12_readLine 94 = .ok (.aload_n 0, 1) := by decide +kernel
theorem d_X12_readLine_95 : decode cX12_readLine 95 = .ok (.iconst 1, 1) := by decide +kernel
theorem d_X12_readLine_96 : decode cX12_readLine 96 = .ok (.bipush 99, 2) := by decide +kernel
theorem d_X12_readLine_98 : decode cX12_readLine 98 = .ok (.invokevirtual 168, 3) := by decide +kernel
theorem d_X12_readLine_101 : decode cX12_readLine 101 = .ok (.ifCond .ne 5, 3) := by decide +kernel
theorem d_X12_readLine_104 : decode cX12_readLine 104 = .ok (.iconst 0, 1) := by decide +kernel
theorem d_X12_readLine_105 : decode cX12_readLine 105 = .ok (.ireturn, 1) := by decide +kernel
theorem d_X12_readLine_106 : decode cX12_readLine 106 = .ok (.aload_n 0, 1) := by decide +kernel
theorem d_X12_readLine_107 : decode cX12_readLine 107 = .ok (.getfield 102, 3) := by decide +kernel
theorem d_X12_readLine_110 : decode cX12_readLine 110 = .ok (.iconst 3, 1) := by decide +kernel
theorem d_X12_readLine_111 : decode cX12_readLine 111 = .ok (.iload_n 1, 1) := by decide +kernel
theorem d_X12_readLine_112 : decode cX12_readLine 112 = .ok (.iadd, 1) := by decide +kernel
theorem d_X12_readLine_113 : decode cX12_readLine 113 = .ok (.iload_n 2, 1) := by decide +kernel
theorem d_X12_readLine_114 : decode cX12_readLine 114 = .ok (.iastore, 1) := by decide +kernel
theorem d_X12_readLine_115 : decode cX12_readLine 115 = .ok (.aload_n 0, 1) := by decide +kernel
theorem d_X12_readLine_116 : decode cX12_readLine 116 = .ok (.getfield 102, 3) := by decide +kernel
theorem d_X12_readLine_119 : decode cX12_readLine 119 = .ok (.bipush 27, 2) := by decide +kernel
theorem d_X12_readLine_121 : decode cX12_readLine 121 = .ok (.iload_n 1, 1) := by decide +kernel
theorem d_X12_readLine_122 : decode cX12_readLine 122 = .ok (.iadd, 1) := by decide +kernel
theorem d_X12_readLine_123 : decode cX12_readLine 123 = .ok (.iload_n 3, 1) := by decide +kernel
theorem d_X12_readLine_124 : decode cX12_readLine 124 = .ok (.iastore, 1) := by decide +kernel
theorem d_X12_readLine_125 : decode cX12_readLine 125 = .ok (.aload_n 0, 1) := by decide +kernel
theorem d_X12_readLine_126 : decode cX12_readLine 126 = .ok (.getfield 102, 3) := by decide +kernel
theorem d_X12_readLine_129 : decode cX12_readLine 129 = .ok (.bipush 51, 2) := by decide +kernel
theorem d_X12_readLine_131 : decode cX12_readLine 131 = .ok (.iload_n 1, 1) := by decide +kernel
theorem d_X12_readLine_132 : decode cX12_readLine 132 = .ok (.iadd, 1) := by decide +kernel
theorem d_X12_readLine_133 : decode cX12_readLine 133 = .ok (.aload_n 0, 1) := by decide +kernel
theorem d_X12_readLine_134 : decode cX12_readLine 134 = .ok (.getfield 87, 3) := by decide +kernel
theorem d_X12_readLine_137 : decode cX12_readLine 137 = .ok (.iastore, 1) := by decide +kernel
theorem d_X12_readLine_138 : decode cX12_readLine 138 = .ok (.aload_n 0, 1) := by decide +kernel
theorem d_X12_readLine_139 : decode cX12_readLine 139 = .ok (.getfield 102, 3) := by decide +kernel
theorem d_X12_readLine_142 : decode cX12_readLine 142 = .ok (.bipush 75, 2) := by decide +kernel
theorem d_X12_readLine_144 : decode cX12_readLine 144 = .ok (.iload_n 1, 1) := by decide +kernel
theorem d_X12_readLine_145 : decode cX12_readLine 145 = .ok (.iadd, 1) := by decide +kernel
theorem d_X12_readLine_146 : decode cX12_readLine 146 = .ok (.iconst (-1), 1) := by decide +kernel
theorem d_X12_readLine_147 : decode cX12_readLine 147 = .ok (.iastore, 1) := by decide +kernel
theorem d_X12_readLine_148 : decode cX12_readLine 148 = .ok (.aload_n 0, 1) := by decide +kernel
theorem d_X12_readLine_149 : decode cX12_readLine 149 = .ok (.getfield 102, 3) := by decide +kernel
theorem d_X12_readLine_152 : decode cX12_readLine 152 = .ok (.iconst 1, 1) := by decide +kernel
theorem d_X12_readLine_153 : decode cX12_readLine 153 = .ok (.dup2, 1) := by decide +kernel
theorem d_X12_readLine_154 : decode cX12_readLine 154 = .ok (.iaload, 1) := by decide +kernel
theorem d_X12_readLine_155 : decode cX12_readLine 155 = .ok (.iconst 1, 1) := by decide +kernel
theorem d_X12_readLine_156 : decode cX12_readLine 156 = .ok (.iadd, 1) := by decide +kernel
theorem d_X12_readLine_157 : decode cX12_readLine 157 = .ok (.iastore, 1) := by decide +kernel
theorem d_X12_readLine_158 : decode cX12_readLine 158 = .ok (.iconst 1, 1) := by decide +kernel
theorem d_X12_readLine_159 : decode cX12_readLine 159 = .ok (.ireturn, 1) := by decide +kernel
theorem d_X12_readPoint_0 : decode cX12_readPoint 0 = .ok (.aload_n 0, 1) := by decide +kernel
theorem d_X12_readPoint_1 : decode cX12_readPoint 1 = .ok (.getfield 102, 3) := by decide +kernel
theorem d_X12_readPoint_4 : decode cX12_readPoint 4 = .ok (.iconst 0, 1) := by decide +kernel
theorem d_X12_readPoint_5 : decode cX12_readPoint 5 = .ok (.iaload, 1) := by decide +kernel
theorem d_X12_readPoint_6 : decode cX12_readPoint 6 = .ok (.bipush 10, 2) := by decide +kernel
theorem d_X12_readPoint_8 : decode cX12_readPoint 8 = .ok (.if_icmp .ne 9, 3) := by decide +kernel
theorem d_X12_readPoint_11 : decode cX12_readPoint 11 = .ok (.aload_n 0, 1) := by decide +kernel
theorem d_X12_readPoint_12 : decode cX12_readPoint 12 = .ok (.iconst 4, 1) := by decide +kernel
theorem d_X12_readPoint_13 : decode cX12_readPoint 13 = .ok (.invokevirtual 80, 3) := by decide +kernel
theorem d_X12_readPoint_16 : decode cX12_readPoint 16 = .ok (.ireturn, 1) := by decide +kernel
theorem d_X12_readPoint_17 : decode cX12_readPoint 17 = .ok (.aload_n 0, 1) := by decide +kernel
theorem d_X12_readPoint_18 : decode cX12_readPoint 18 = .ok (.invokevirtual 90, 3) := by decide +kernel
theorem d_X12_readPoint_21 : decode cX12_readPoint 21 = .ok (.aload_n 0, 1) := by decide +kernel
theorem d_X12_readPoint_22 : decode cX12_readPoint 22 = .ok (.invokevirtual 161, 3) := by decide +kernel
theorem d_X12_readPoint_25 : decode cX12_readPoint 25 = .ok (.ifCond .ne 9, 3) := by decide +kernel
theorem d_X12_readPoint_28 : decode cX12_readPoint 28 = .ok (.aload_n 0, 1) := by decide +kernel
theorem d_X12_readPoint_29 : decode cX12_readPoint 29 = .ok (.iconst 1, 1) := by decide +kernel
theorem d_X12_readPoint_30 : decode cX12_readPoint 30 = .ok (.invokevirtual 80, 3) := by decide +kernel
theorem d_X12_readPoint_33 : decode cX12_readPoint 33 = .ok (.ireturn, 1) := by decide +kernel
theorem d_X12_readPoint_34 : decode cX12_readPoint 34 = .ok (.aload_n 0, 1) := by decide +kernel
theorem d_X12_readPoint_35 : decode cX12_readPoint 35 = .ok (.invokevirtual 164, 3) := by decide +kernel
theorem d_X12_readPoint_38 : decode cX12_readPoint 38 = .ok (.iconst (-1), 1) := by decide +kernel
theorem d_X12_readPoint_39 : decode cX12_readPoint 39 = .ok (.if_icmp .eq 9, 3) := by decide +kernel
theorem d_X12_readPoint_42 : decode cX12_readPoint 42 = .ok (.aload_n 0, 1) := by decide +kernel
theorem d_X12_readPoint_43 : decode cX12_readPoint 43 = .ok (.iconst 3, 1) := by decide +kernel
theorem d_X12_readPoint_44 : decode cX12_readPoint 44 = .ok (.invokevirtual 80, 3) := by decide +kernel
theorem d_X12_readPoint_47 : decode cX12_readPoint 47 = .ok (.ireturn, 1) := by decide +kernel
theorem d_X12_readPoint_48 : decode cX12_readPoint 48 = .ok (.aload_n 0, 1) := by decide +kernel
theorem d_X12_readPoint_49 : decode cX12_readPoint 49 = .ok (.getfield 117, 3) := by decide +kernel
theorem d_X12_readPoint_52 : decode cX12_readPoint 52 = .ok (.aload_n 0, 1) := by decide +kernel
theorem d_X12_readPoint_53 : decode cX12_readPoint 53 = .ok (.getfield 102, 3) := by decide +kernel
theorem d_X12_readPoint_56 : decode cX12_readPoint 56 = .ok (.iconst 0, 1) := by decide +kernel
theorem d_X12_readPoint_57 : decode cX12_readPoint 57 = .ok (.iaload, 1) := by decide +kernel
theorem d_X12_readPoint_58 : decode cX12_readPoint 58 = .ok (.aload_n 0, 1) := by decide +kernel
theorem d_X12_readPoint_59 : decode cX12_readPoint 59 = .ok (.getfield 41, 3) := by decide +kernel
theorem d_X12_readPoint_62 : decode cX12_readPoint 62 = .ok (.lastore, 1) := by decide +kernel
theorem d_X12_readPoint_63 : decode cX12_readPoint 63 = .ok (.aload_n 0, 1) := by decide +kernel
theorem d_X12_readPoint_64 : decode cX12_readPoint 64 = .ok (.getfield 102, 3) := by decide +kernel
theorem d_X12_readPoint_67 : decode cX12_readPoint 67 = .ok (.iconst 0, 1) := by decide +kernel
theorem d_X12_readPoint_68 : decode cX12_readPoint 68 = .ok (.dup2, 1) := by decide +kernel
theorem d_X12_readPoint_69 : decode cX12_readPoint 69 = .ok (.iaload, 1) := by decide +kernel
theorem d_X12_readPoint_70 : decode cX12_readPoint 70 = .ok (.iconst 1, 1) := by decide +kernel
theorem d_X12_readPoint_71 : decode cX12_readPoint 71 = .ok (.iadd, 1) := by decide +kernel
theorem d_X12_readPoint_72 : decode cX12_readPoint 72 = .ok (.iastore, 1) := by decide +kernel
theorem d_X12_readPoint_73 : decode cX12_readPoint 73 = .ok (.aload_n 0, 1) := by decide +kernel
theorem d_X12_readPoint_74 : decode cX12_readPoint 74 = .ok (.invokevirtual 90, 3) := by decide +kernel
theorem d_X12_readPoint_77 : decode cX12_readPoint 77 = .ok (.iconst 1, 1) := by decide +kernel
theorem d_X12_readPoint_78 : decode cX12_readPoint 78 = .ok (.ireturn, 1) := by decide +kernel
theorem d_X12_readEnd_0 : decode cX12_readEnd 0 = .ok (.aload_n 0, 1) := by decide +kernel
theorem d_X12_readEnd_1 : decode cX12_readEnd 1 = .ok (.getfield 31, 3) := by decide +kernel
theorem d_X12_readEnd_4 : decode cX12_readEnd 4 = .ok (.iconst 4, 1) := by decide +kernel
theorem d_X12_readEnd_5 : decode cX12_readEnd 5 = .ok (.if_icmp .eq 9, 3) := by decide +kernel
theorem d_X12_readEnd_8 : decode cX12_readEnd 8 = .ok (.aload_n 0, 1) := by decide +kernel
theorem d_X12_readEnd_9 : decode cX12_readEnd 9 = .ok (.iconst 1, 1) := by decide +kernel
theorem d_X12_readEnd_10 : decode cX12_readEnd 10 = .ok (.invokevirtual 80, 3) := by decide +kernel
theorem d_X12_readEnd_13 : decode cX12_readEnd 13 = .ok (.ireturn, 1) := by decide +kernel
theorem d_X12_readEnd_14 : decode cX12_readEnd 14 = .ok (.aload_n 0, 1) := by decide +kernel
theorem d_X12_readEnd_15 : decode cX12_readEnd 15 = .ok (.invokevirtual 90, 3) := by decide +kernel
theorem d_X12_readEnd_18 : decode cX12_readEnd 18 = .ok (.iconst 1, 1) := by decide +kernel
theorem d_X12_readEnd_19 : decode cX12_readEnd 19 = .ok (.ireturn, 1) := by decide +kernel
theorem d_X12_net_0 : decode cX12_net 0 = .ok (.aload_n 0, 1) := by decide +kernel
theorem d_X12_net_1 : decode cX12_net 1 = .ok (.iconst 0, 1) := by decide +kernel
theorem d_X12_net_2 : decode cX12_net 2 = .ok (.putfield 1, 3) := by decide +kernel
theorem d_X12_net_5 : decode cX12_net 5 = .ok (.aload_n 0, 1) := by decide +kernel
theorem d_X12_net_6 : decode cX12_net 6 = .ok (.aload_n 0, 1) := by decide +kernel
theorem d_X12_net_7 : decode cX12_net 7 = .ok (.getfield 15, 3) := by decide +kernel
theorem d_X12_net_10 : decode cX12_net 10 = .ok (.putfield 22, 3) := by decide +kernel
theorem d_X12_net_13 : decode cX12_net 13 = .ok (.aload_n 0, 1) := by decide +kernel
theorem d_X12_net_14 : decode cX12_net 14 = .ok (.iconst 0, 1) := by decide +kernel
theorem d_X12_net_15 : decode cX12_net 15 = .ok (.putfield 15, 3) := by decide +kernel
theorem d_X12_net_18 : decode cX12_net 18 = .ok (.aload_n 0, 1) := by decide +kernel
theorem d_X12_net_19 : decode cX12_net 19 = .ok (.iconst 0, 1) := by decide +kernel
theorem d_X12_net_20 : decode cX12_net 20 = .ok (.putfield 74, 3) := by decide +kernel
theorem d_X12_net_23 : decode cX12_net 23 = .ok (.aload_n 0, 1) := by decide +kernel
theorem d_X12_net_24 : decode cX12_net 24 = .ok (.iconst 0, 1) := by decide +kernel
theorem d_X12_net_25 : decode cX12_net 25 = .ok (.putfield 25, 3) := by decide +kernel
theorem d_X12_net_28 : decode cX12_net 28 = .ok (.iconst 0, 1) := by decide +kernel
theorem d_X12_net_29 : decode cX12_net 29 = .ok (.istore_n 1, 1) := by decide +kernel
theorem d_X12_net_30 : decode cX12_net 30 = .ok (.iload_n 1, 1) := by decide +kernel
theorem d_X12_net_31 : decode cX12_net 31 = .ok (.sipush 147, 3) := by decide +kernel
theorem d_X12_net_34 : decode cX12_net 34 = .ok (.if_icmp .ge 16, 3) := by decide +kernel
theorem d_X12_net_37 : decode cX12_net 37 = .ok (.aload_n 0, 1) := by decide +kernel
theorem d_X12_net_38 : decode cX12_net 38 = .ok (.getfield 102, 3) := by decide +kernel
theorem d_X12_net_41 : decode cX12_net 41 = .ok (.iload_n 1, 1) := by decide +kernel
theorem d_X12_net_42 : decode cX12_net 42 = .ok (.iconst 0, 1) := by decide +kernel
theorem d_X12_net_43 : decode cX12_net 43 = .ok (.iastore, 1) := by decide +kernel
theorem d_X12_net_44 : decode cX12_net 44 = .ok (.iinc 1 1, 3) := by decide +kernel
theorem d_X12_net_47 : decode cX12_net 47 = .ok (.goto (-17), 3) := by decide +kernel
theorem d_X12_net_50 : decode cX12_net 50 = .ok (.iconst 0, 1) := by decide +kernel
theorem d_X12_net_51 : decode cX12_net 51 = .ok (.istore_n 1, 1) := by decide +kernel
theorem d_X12_net_52 : decode cX12_net 52 = .ok (.aload_n 0, 1) := by decide +kernel
theorem d_X12_net_53 : decode cX12_net 53 = .ok (.invokevirtual 90, 3) := by decide +kernel
theorem d_X12_net_56 : decode cX12_net 56 = .ok (.aload_n 0, 1) := by decide +kernel
theorem d_X12_net_57 : decode cX12_net 57 = .ok (.getfield 31, 3) := by decide +kernel
theorem d_X12_net_60 : decode cX12_net 60 = .ok (.ifCond .eq 75, 3) := by decide +kernel
theorem d_X12_net_63 : decode cX12_net 63 = .ok (.aload_n 0, 1) := by decide +kernel
theorem d_X12_net_64 : decode cX12_net 64 = .ok (.invokevirtual 64, 3) := by decide +kernel
theorem d_X12_net_67 : decode cX12_net 67 = .ok (.ifCond .eq 10, 3) := by decide +kernel
theorem d_X12_net_70 : decode cX12_net 70 = .ok (.aload_n 0, 1) := by decide +kernel
theorem d_X12_net_71 : decode cX12_net 71 = .ok (.invokevirtual 172, 3) := by decide +kernel
theorem d_X12_net_74 : decode cX12_net 74 = .ok (.goto 36, 3) := by decide +kernel
theorem d_X12_net_77 : decode cX12_net 77 = .ok (.aload_n 0, 1) := by decide +kernel
theorem d_X12_net_78 : decode cX12_net 78 = .ok (.invokevirtual 68, 3) := by decide +kernel
theorem d_X12_net_81 : decode cX12_net 81 = .ok (.ifCond .eq 10, 3) := by decide +kernel
theorem d_X12_net_84 : decode cX12_net 84 = .ok (.aload_n 0, 1) := by decide +kernel
theorem d_X12_net_85 : decode cX12_net 85 = .ok (.invokevirtual 175, 3) := by decide +kernel
theorem d_X12_net_88 : decode cX12_net 88 = .ok (.goto 22, 3) := by decide +kernel
theorem d_X12_net_91 : decode cX12_net 91 = .ok (.aload_n 0, 1) := by decide +kernel
theorem d_X12_net_92 : decode cX12_net 92 = .ok (.invokevirtual 71, 3) := by decide +kernel
theorem d_X12_net_95 : decode cX12_net 95 = .ok (.ifCond .eq 10, 3) := by decide +kernel
theorem d_X12_net_98 : decode cX12_net 98 = .ok (.aload_n 0, 1) := by decide +kernel
theorem d_X12_net_99 : decode cX12_net 99 = .ok (.invokevirtual 178, 3) := by decide +kernel
theorem d_X12_net_102 : decode cX12_net 102 = .ok (.goto 8, 3) := by decide +kernel
theorem d_X12_net_105 : decode cX12_net 105 = .ok (.aload_n 0, 1) := by decide +kernel
theorem d_X12_net_106 : decode cX12_net 106 = .ok (.iconst 1, 1) := by decide +kernel
theorem d_X12_net_107 : decode cX12_net 107 = .ok (.invokevirtual 80, 3) := by decide +kernel
theorem d_X12_net_110 : decode cX12_net 110 = .ok (.istore_n 2, 1) := by decide +kernel
theorem d_X12_net_111 : decode cX12_net 111 = .ok (.iload_n 2, 1) := by decide +kernel
theorem d_X12_net_112 : decode cX12_net 112 = .ok (.ifCond .eq 10, 3) := by decide +kernel
theorem d_X12_net_115 : decode cX12_net 115 = .ok (.aload_n 0, 1) := by decide +kernel
theorem d_X12_net_116 : decode cX12_net 116 = .ok (.invokevirtual 181, 3) := by decide +kernel
theorem d_X12_net_119 : decode cX12_net 119 = .ok (.ifCond .ne 10, 3) := by decide +kernel
theorem d_X12_net_122 : decode cX12_net 122 = .ok (.iconst (-1), 1) := by decide +kernel
theorem d_X12_net_123 : decode cX12_net 123 = .ok (.aload_n 0, 1) := by decide +kernel
theorem d_X12_net_124 : decode cX12_net 124 = .ok (.getfield 77, 3) := by decide +kernel
theorem d_X12_net_127 : decode cX12_net 127 = .ok (.isub, 1) := by decide +kernel
theorem d_X12_net_128 : decode cX12_net 128 = .ok (.ireturn, 1) := by decide +kernel
theorem d_X12_net_129 : decode cX12_net 129 = .ok (.iinc 1 1, 3) := by decide +kernel
theorem d_X12_net_132 : decode cX12_net 132 = .ok (.goto (-76), 3) := by decide +kernel
theorem d_X12_net_135 : decode cX12_net 135 = .ok (.aload_n 0, 1) := by decide +kernel
theorem d_X12_net_136 : decode cX12_net 136 = .ok (.getfield 102, 3) := by decide +kernel
theorem d_X12_net_139 : decode cX12_net 139 = .ok (.iconst 2, 1) := by decide +kernel
theorem d_X12_net_140 : decode cX12_net 140 = .ok (.iaload, 1) := by decide +kernel
theorem d_X12_net_141 : decode cX12_net 141 = .ok (.ifCond .ne 10, 3) := by decide +kernel
theorem d_X12_net_144 : decode cX12_net 144 = .ok (.aload_n 0, 1) := by decide +kernel
theorem d_X12_net_145 : decode cX12_net 145 = .ok (.getfield 102, 3) := by decide +kernel
theorem d_X12_net_148 : decode cX12_net 148 = .ok (.iconst 2, 1) := by decide +kernel
theorem d_X12_net_149 : decode cX12_net 149 = .ok (.iconst 2, 1) := by decide +kernel
theorem d_X12_net_150 : decode cX12_net 150 = .ok (.iastore, 1) := by decide +kernel
theorem d_X12_net_151 : decode cX12_net 151 = .ok (.aload_n 0, 1) := by decide +kernel
theorem d_X12_net_152 : decode cX12_net 152 = .ok (.getfield 102, 3) := by decide +kernel
theorem d_X12_net_155 : decode cX12_net 155 = .ok (.iconst 0, 1) := by decide +kernel
theorem d_X12_net_156 : decode cX12_net 156 = .ok (.aload_n 0, 1) := by decide +kernel
theorem d_X12_net_157 : decode cX12_net 157 = .ok (.getfield 99, 3) := by decide +kernel
theorem d_X12_net_160 : decode cX12_net 160 = .ok (.iconst 0, 1) := by decide +kernel
theorem d_X12_net_161 : decode cX12_net 161 = .ok (.invokestatic 184, 3) := by decide +kernel
theorem d_X12_net_164 : decode cX12_net 164 = .ok (.aload_n 0, 1) := by decide +kernel
theorem d_X12_net_165 : decode cX12_net 165 = .ok (.iconst 0, 1) := by decide +kernel
theorem d_X12_net_166 : decode cX12_net 166 = .ok (.putfield 188, 3) := by decide +kernel
theorem d_X12_net_169 : decode cX12_net 169 = .ok (.iload_n 1, 1) := by decide +kernel
theorem d_X12_net_170 : decode cX12_net 170 = .ok (.ireturn, 1) := by decide +kernel
theorem d_X12_fault_0 : decode cX12_fault 0 = .ok (.aload_n 0, 1) := by decide +kernel
theorem d_X12_fault_1 : decode cX12_fault 1 = .ok (.iconst 0, 1) := by decide +kernel
theorem d_X12_fault_2 : decode cX12_fault 2 = .ok (.putfield 1, 3) := by decide +kernel
theorem d_X12_fault_5 : decode cX12_fault 5 = .ok (.aload_n 0, 1) := by decide +kernel
theorem d_X12_fault_6 : decode cX12_fault 6 = .ok (.getfield 74, 3) := by decide +kernel
theorem d_X12_fault_9 : decode cX12_fault 9 = .ok (.ireturn, 1) := by decide +kernel
theorem d_X12_many_0 : decode cX12_many 0 = .ok (.aload_n 0, 1) := by decide +kernel
theorem d_X12_many_1 : decode cX12_many 1 = .ok (.getfield 99, 3) := by decide +kernel
theorem d_X12_many_4 : decode cX12_many 4 = .ok (.iconst 2, 1) := by decide +kernel
theorem d_X12_many_5 : decode cX12_many 5 = .ok (.iaload, 1) := by decide +kernel
theorem d_X12_many_6 : decode cX12_many 6 = .ok (.ireturn, 1) := by decide +kernel
theorem d_X12_snap_0 : decode cX12_snap 0 = .ok (.aload_n 0, 1) := by decide +kernel
theorem d_X12_snap_1 : decode cX12_snap 1 = .ok (.getfield 188, 3) := by decide +kernel
theorem d_X12_snap_4 : decode cX12_snap 4 = .ok (.bipush 8, 2) := by decide +kernel
theorem d_X12_snap_6 : decode cX12_snap 6 = .ok (.if_icmp .ne 44, 3) := by decide +kernel
theorem d_X12_snap_9 : decode cX12_snap 9 = .ok (.iconst 0, 1) := by decide +kernel
theorem d_X12_snap_10 : decode cX12_snap 10 = .ok (.istore_n 1, 1) := by decide +kernel
theorem d_X12_snap_11 : decode cX12_snap 11 = .ok (.iload_n 1, 1) := by decide +kernel
theorem d_X12_snap_12 : decode cX12_snap 12 = .ok (.sipush 1029, 3) := by decide +kernel
theorem d_X12_snap_15 : decode cX12_snap 15 = .ok (.if_icmp .ge 25, 3) := by decide +kernel
theorem d_X12_snap_18 : decode cX12_snap 18 = .ok (.aload_n 0, 1) := by decide +kernel
theorem d_X12_snap_19 : decode cX12_snap 19 = .ok (.getfield 108, 3) := by decide +kernel
theorem d_X12_snap_22 : decode cX12_snap 22 = .ok (.iload_n 1, 1) := by decide +kernel
theorem d_X12_snap_23 : decode cX12_snap 23 = .ok (.aload_n 0, 1) := by decide +kernel
theorem d_X12_snap_24 : decode cX12_snap 24 = .ok (.getfield 108, 3) := by decide +kernel
theorem d_X12_snap_27 : decode cX12_snap 27 = .ok (.iload_n 1, 1) := by decide +kernel
theorem d_X12_snap_28 : decode cX12_snap 28 = .ok (.sipush 147, 3) := by decide +kernel
theorem d_X12_snap_31 : decode cX12_snap 31 = .ok (.iadd, 1) := by decide +kernel
theorem d_X12_snap_32 : decode cX12_snap 32 = .ok (.iaload, 1) := by decide +kernel
theorem d_X12_snap_33 : decode cX12_snap 33 = .ok (.iastore, 1) := by decide +kernel
theorem d_X12_snap_34 : decode cX12_snap 34 = .ok (.iinc 1 1, 3) := by decide +kernel
theorem d_X12_snap_37 : decode cX12_snap 37 = .ok (.goto (-26), 3) := by decide +kernel
theorem d_X12_snap_40 : decode cX12_snap 40 = .ok (.aload_n 0, 1) := by decide +kernel
theorem d_X12_snap_41 : decode cX12_snap 41 = .ok (.dup, 1) := by decide +kernel
theorem d_X12_snap_42 : decode cX12_snap 42 = .ok (.getfield 188, 3) := by decide +kernel
theorem d_X12_snap_45 : decode cX12_snap 45 = .ok (.iconst 1, 1) := by decide +kernel
theorem d_X12_snap_46 : decode cX12_snap 46 = .ok (.isub, 1) := by decide +kernel
theorem d_X12_snap_47 : decode cX12_snap 47 = .ok (.putfield 188, 3) := by decide +kernel
theorem d_X12_snap_50 : decode cX12_snap 50 = .ok (.aload_n 0, 1) := by decide +kernel
theorem d_X12_snap_51 : decode cX12_snap 51 = .ok (.getfield 99, 3) := by decide +kernel
theorem d_X12_snap_54 : decode cX12_snap 54 = .ok (.iconst 0, 1) := by decide +kernel
theorem d_X12_snap_55 : decode cX12_snap 55 = .ok (.aload_n 0, 1) := by decide +kernel
theorem d_X12_snap_56 : decode cX12_snap 56 = .ok (.getfield 108, 3) := by decide +kernel
theorem d_X12_snap_59 : decode cX12_snap 59 = .ok (.sipush 147, 3) := by decide +kernel
theorem d_X12_snap_62 : decode cX12_snap 62 = .ok (.aload_n 0, 1) := by decide +kernel
theorem d_X12_snap_63 : decode cX12_snap 63 = .ok (.getfield 188, 3) := by decide +kernel
theorem d_X12_snap_66 : decode cX12_snap 66 = .ok (.imul, 1) := by decide +kernel
theorem d_X12_snap_67 : decode cX12_snap 67 = .ok (.invokestatic 184, 3) := by decide +kernel
theorem d_X12_snap_70 : decode cX12_snap 70 = .ok (.aload_n 0, 1) := by decide +kernel
theorem d_X12_snap_71 : decode cX12_snap 71 = .ok (.dup, 1) := by decide +kernel
theorem d_X12_snap_72 : decode cX12_snap 72 = .ok (.getfield 188, 3) := by decide +kernel
theorem d_X12_snap_75 : decode cX12_snap 75 = .ok (.iconst 1, 1) := by decide +kernel
theorem d_X12_snap_76 : decode cX12_snap 76 = .ok (.iadd, 1) := by decide +kernel
theorem d_X12_snap_77 : decode cX12_snap 77 = .ok (.putfield 188, 3) := by decide +kernel
theorem d_X12_snap_80 : decode cX12_snap 80 = .ok (.return_, 1) := by decide +kernel
theorem d_X12_lines_0 : decode cX12_lines 0 = .ok (.aload_n 0, 1) := by decide +kernel
theorem d_X12_lines_1 : decode cX12_lines 1 = .ok (.getfield 99, 3) := by decide +kernel
theorem d_X12_lines_4 : decode cX12_lines 4 = .ok (.iconst 1, 1) := by decide +kernel
theorem d_X12_lines_5 : decode cX12_lines 5 = .ok (.iaload, 1) := by decide +kernel
theorem d_X12_lines_6 : decode cX12_lines 6 = .ok (.ireturn, 1) := by decide +kernel
theorem d_X12_lies_0 : decode cX12_lies 0 = .ok (.aload_n 0, 1) := by decide +kernel
theorem d_X12_lies_1 : decode cX12_lies 1 = .ok (.getfield 99, 3) := by decide +kernel
theorem d_X12_lies_4 : decode cX12_lies 4 = .ok (.bipush 75, 2) := by decide +kernel
theorem d_X12_lies_6 : decode cX12_lies 6 = .ok (.iload_n 1, 1) := by decide +kernel
theorem d_X12_lies_7 : decode cX12_lies 7 = .ok (.iadd, 1) := by decide +kernel
theorem d_X12_lies_8 : decode cX12_lies 8 = .ok (.iaload, 1) := by decide +kernel
theorem d_X12_lies_9 : decode cX12_lies 9 = .ok (.ireturn, 1) := by decide +kernel
theorem d_X12_forests_0 : decode cX12_forests 0 = .ok (.aload_n 0, 1) := by decide +kernel
theorem d_X12_forests_1 : decode cX12_forests 1 = .ok (.iconst 0, 1) := by decide +kernel
theorem d_X12_forests_2 : decode cX12_forests 2 = .ok (.putfield 1, 3) := by decide +kernel
theorem d_X12_forests_5 : decode cX12_forests 5 = .ok (.iload_n 1, 1) := by decide +kernel
theorem d_X12_forests_6 : decode cX12_forests 6 = .ok (.iconst 1, 1) := by decide +kernel
theorem d_X12_forests_7 : decode cX12_forests 7 = .ok (.iconst 5, 1) := by decide +kernel
theorem d_X12_forests_8 : decode cX12_forests 8 = .ok (.invokestatic 83, 3) := by decide +kernel
theorem d_X12_forests_11 : decode cX12_forests 11 = .ok (.ifCond .eq 11, 3) := by decide +kernel
theorem d_X12_forests_14 : decode cX12_forests 14 = .ok (.iload_n 1, 1) := by decide +kernel
theorem d_X12_forests_15 : decode cX12_forests 15 = .ok (.aload_n 0, 1) := by decide +kernel
theorem d_X12_forests_16 : decode cX12_forests 16 = .ok (.invokevirtual 197, 3) := by decide +kernel
theorem d_X12_forests_19 : decode cX12_forests 19 = .ok (.if_icmp .ne 5, 3) := by decide +kernel
theorem d_X12_forests_22 : decode cX12_forests 22 = .ok (.iconst (-1), 1) := by decide +kernel
theorem d_X12_forests_23 : decode cX12_forests 23 = .ok (.ireturn, 1) := by decide +kernel
theorem d_X12_forests_24 : decode cX12_forests 24 = .ok (.aload_n 0, 1) := by decide +kernel
theorem d_X12_forests_25 : decode cX12_forests 25 = .ok (.invokevirtual 215, 3) := by decide +kernel
theorem d_X12_forests_28 : decode cX12_forests 28 = .ok (.iconst 0, 1) := by decide +kernel
theorem d_X12_forests_29 : decode cX12_forests 29 = .ok (.istore_n 2, 1) := by decide +kernel
theorem d_X12_forests_30 : decode cX12_forests 30 = .ok (.iconst 0, 1) := by decide +kernel
theorem d_X12_forests_31 : decode cX12_forests 31 = .ok (.istore_n 3, 1) := by decide +kernel
theorem d_X12_forests_32 : decode cX12_forests 32 = .ok (.iload_n 3, 1) := by decide +kernel
theorem d_X12_forests_33 : decode cX12_forests 33 = .ok (.aload_n 0, 1) := by decide +kernel
theorem d_X12_forests_34 : decode cX12_forests 34 = .ok (.invokevirtual 194, 3) := by decide +kernel
theorem d_X12_forests_37 : decode cX12_forests 37 = .ok (.if_icmp .ge 34, 3) := by decide +kernel
theorem d_X12_forests_40 : decode cX12_forests 40 = .ok (.aload_n 0, 1) := by decide +kernel
theorem d_X12_forests_41 : decode cX12_forests 41 = .ok (.iload_n 3, 1) := by decide +kernel
theorem d_X12_forests_42 : decode cX12_forests 42 = .ok (.invokevirtual 203, 3) := by decide +kernel
theorem d_X12_forests_45 : decode cX12_forests 45 = .ok (.iload_n 1, 1) := by decide +kernel
theorem d_X12_forests_46 : decode cX12_forests 46 = .ok (.if_icmp .ge 6, 3) := by decide +kernel
theorem d_X12_forests_49 : decode cX12_forests 49 = .ok (.goto 16, 3) := by decide +kernel
theorem d_X12_forests_52 : decode cX12_forests 52 = .ok (.aload_n 0, 1) := by decide +kernel
theorem d_X12_forests_53 : decode cX12_forests 53 = .ok (.getfield 99, 3) := by decide +kernel
theorem d_X12_forests_56 : decode cX12_forests 56 = .ok (.bipush 75, 2) := by decide +kernel
theorem d_X12_forests_58 : decode cX12_forests 58 = .ok (.iload_n 3, 1) := by decide +kernel
theorem d_X12_forests_59 : decode cX12_forests 59 = .ok (.iadd, 1) := by decide +kernel
theorem d_X12_forests_60 : decode cX12_forests 60 = .ok (.iconst (-1), 1) := by decide +kernel
theorem d_X12_forests_61 : decode cX12_forests 61 = .ok (.iastore, 1) := by decide +kernel
theorem d_X12_forests_62 : decode cX12_forests 62 = .ok (.iinc 2 1, 3) := by decide +kernel
theorem d_X12_forests_65 : decode cX12_forests 65 = .ok (.iinc 3 1, 3) := by decide +kernel
theorem d_X12_forests_68 : decode cX12_forests 68 = .ok (.goto (-36), 3) := by decide +kernel
theorem d_X12_forests_71 : decode cX12_forests 71 = .ok (.aload_n 0, 1) := by decide +kernel
theorem d_X12_forests_72 : decode cX12_forests 72 = .ok (.getfield 99, 3) := by decide +kernel
theorem d_X12_forests_75 : decode cX12_forests 75 = .ok (.iconst 2, 1) := by decide +kernel
theorem d_X12_forests_76 : decode cX12_forests 76 = .ok (.iload_n 1, 1) := by decide +kernel
theorem d_X12_forests_77 : decode cX12_forests 77 = .ok (.iastore, 1) := by decide +kernel
theorem d_X12_forests_78 : decode cX12_forests 78 = .ok (.iload_n 2, 1) := by decide +kernel
theorem d_X12_forests_79 : decode cX12_forests 79 = .ok (.ireturn, 1) := by decide +kernel
theorem d_X12_isLine_0 : decode cX12_isLine 0 = .ok (.iload_n 1, 1) := by decide +kernel
theorem d_X12_isLine_1 : decode cX12_isLine 1 = .ok (.iconst 0, 1) := by decide +kernel
theorem d_X12_isLine_2 : decode cX12_isLine 2 = .ok (.aload_n 0, 1) := by decide +kernel
theorem d_X12_isLine_3 : decode cX12_isLine 3 = .ok (.invokevirtual 194, 3) := by decide +kernel
theorem d_X12_isLine_6 : decode cX12_isLine 6 = .ok (.iconst 1, 1) := by decide +kernel
theorem d_X12_isLine_7 : decode cX12_isLine 7 = .ok (.isub, 1) := by decide +kernel
theorem d_X12_isLine_8 : decode cX12_isLine 8 = .ok (.invokestatic 83, 3) := by decide +kernel
theorem d_X12_isLine_11 : decode cX12_isLine 11 = .ok (.ireturn, 1) := by decide +kernel
theorem d_X12_refuse_0 : decode cX12_refuse 0 = .ok (.aload_n 0, 1) := by decide +kernel
theorem d_X12_refuse_1 : decode cX12_refuse 1 = .ok (.iconst 1, 1) := by decide +kernel
theorem d_X12_refuse_2 : decode cX12_refuse 2 = .ok (.putfield 1, 3) := by decide +kernel
theorem d_X12_refuse_5 : decode cX12_refuse 5 = .ok (.iconst 0, 1) := by decide +kernel
theorem d_X12_refuse_6 : decode cX12_refuse 6 = .ok (.ireturn, 1) := by decide +kernel
theorem d_X12_line_0 : decode cX12_line 0 = .ok (.aload_n 0, 1) := by decide +kernel
theorem d_X12_line_1 : decode cX12_line 1 = .ok (.iconst 0, 1) := by decide +kernel
theorem d_X12_line_2 : decode cX12_line 2 = .ok (.putfield 1, 3) := by decide +kernel
theorem d_X12_line_5 : decode cX12_line 5 = .ok (.aload_n 0, 1) := by decide +kernel
theorem d_X12_line_6 : decode cX12_line 6 = .ok (.iload_n 1, 1) := by decide +kernel
theorem d_X12_line_7 : decode cX12_line 7 = .ok (.invokevirtual 218, 3) := by decide +kernel
theorem d_X12_line_10 : decode cX12_line 10 = .ok (.ifCond .ne 8, 3) := by decide +kernel
theorem d_X12_line_13 : decode cX12_line 13 = .ok (.aload_n 0, 1) := by decide +kernel
theorem d_X12_line_14 : decode cX12_line 14 = .ok (.invokevirtual 221, 3) := by decide +kernel
theorem d_X12_line_17 : decode cX12_line 17 = .ok (.ireturn, 1) := by decide +kernel
theorem d_X12_line_18 : decode cX12_line 18 = .ok (.iload_n 2, 1) := by decide +kernel
theorem d_X12_line_19 : decode cX12_line 19 = .ok (.tableswitch 78 0 4 #[33, 42, 52, 62, 68], 33) := by decide +kernel
theorem d_X12_line_52 : decode cX12_line 52 = .ok (.aload_n 0, 1) := by decide +kernel
theorem d_X12_line_53 : decode cX12_line 53 = .ok (.getfield 99, 3) := by decide +kernel
theorem d_X12_line_56 : decode cX12_line 56 = .ok (.iconst 3, 1) := by decide +kernel
theorem d_X12_line_57 : decode cX12_line 57 = .ok (.iload_n 1, 1) := by decide +kernel
theorem d_X12_line_58 : decode cX12_line 58 = .ok (.iadd, 1) := by decide +kernel
theorem d_X12_line_59 : decode cX12_line 59 = .ok (.iaload, 1) := by decide +kernel
theorem d_X12_line_60 : decode cX12_line 60 = .ok (.ireturn, 1) := by decide +kernel
theorem d_X12_line_61 : decode cX12_line 61 = .ok (.aload_n 0, 1) := by decide +kernel
theorem d_X12_line_62 : decode cX12_line 62 = .ok (.getfield 99, 3) := by decide +kernel
theorem d_X12_line_65 : decode cX12_line 65 = .ok (.bipush 27, 2) := by decide +kernel
theorem d_X12_line_67 : decode cX12_line 67 = .ok (.iload_n 1, 1) := by decide +kernel
theorem d_X12_line_68 : decode cX12_line 68 = .ok (.iadd, 1) := by decide +kernel
theorem d_X12_line_69 : decode cX12_line 69 = .ok (.iaload, 1) := by decide +kernel
theorem d_X12_line_70 : decode cX12_line 70 = .ok (.ireturn, 1) := by decide +kernel
theorem d_X12_line_71 : decode cX12_line 71 = .ok (.aload_n 0, 1) := by decide +kernel
theorem d_X12_line_72 : decode cX12_line 72 = .ok (.getfield 99, 3) := by decide +kernel
theorem d_X12_line_75 : decode cX12_line 75 = .ok (.bipush 51, 2) := by decide +kernel
theorem d_X12_line_77 : decode cX12_line 77 = .ok (.iload_n 1, 1) := by decide +kernel
theorem d_X12_line_78 : decode cX12_line 78 = .ok (.iadd, 1) := by decide +kernel
theorem d_X12_line_79 : decode cX12_line 79 = .ok (.iaload, 1) := by decide +kernel
theorem d_X12_line_80 : decode cX12_line 80 = .ok (.ireturn, 1) := by decide +kernel
theorem d_X12_line_81 : decode cX12_line 81 = .ok (.aload_n 0, 1) := by decide +kernel
theorem d_X12_line_82 : decode cX12_line 82 = .ok (.iload_n 1, 1) := by decide +kernel
theorem d_X12_line_83 : decode cX12_line 83 = .ok (.invokevirtual 203, 3) := by decide +kernel
theorem d_X12_line_86 : decode cX12_line 86 = .ok (.ireturn, 1) := by decide +kernel
theorem d_X12_line_87 : decode cX12_line 87 = .ok (.aload_n 0, 1) := by decide +kernel
theorem d_X12_line_88 : decode cX12_line 88 = .ok (.getfield 99, 3) := by decide +kernel
theorem d_X12_line_91 : decode cX12_line 91 = .ok (.bipush 99, 2) := by decide +kernel
theorem d_X12_line_93 : decode cX12_line 93 = .ok (.iload_n 1, 1) := by decide +kernel
theorem d_X12_line_94 : decode cX12_line 94 = .ok (.iadd, 1) := by decide +kernel
theorem d_X12_line_95 : decode cX12_line 95 = .ok (.iaload, 1) := by decide +kernel
theorem d_X12_line_96 : decode cX12_line 96 = .ok (.ireturn, 1) := by decide +kernel
theorem d_X12_line_97 : decode cX12_line 97 = .ok (.aload_n 0, 1) := by decide +kernel
theorem d_X12_line_98 : decode cX12_line 98 = .ok (.invokevirtual 221, 3) := by decide +kernel
theorem d_X12_line_101 : decode cX12_line 101 = .ok (.ireturn, 1) := by decide +kernel
theorem d_X12_isForest_0 : decode cX12_isForest 0 = .ok (.iload_n 1, 1) := by decide +kernel
theorem d_X12_isForest_1 : decode cX12_isForest 1 = .ok (.iconst 0, 1) := by decide +kernel
theorem d_X12_isForest_2 : decode cX12_isForest 2 = .ok (.aload_n 0, 1) := by decide +kernel
theorem d_X12_isForest_3 : decode cX12_isForest 3 = .ok (.invokevirtual 197, 3) := by decide +kernel
theorem d_X12_isForest_6 : decode cX12_isForest 6 = .ok (.iconst 1, 1) := by decide +kernel
theorem d_X12_isForest_7 : decode cX12_isForest 7 = .ok (.isub, 1) := by decide +kernel
theorem d_X12_isForest_8 : decode cX12_isForest 8 = .ok (.invokestatic 83, 3) := by decide +kernel
theorem d_X12_isForest_11 : decode cX12_isForest 11 = .ok (.ireturn, 1) := by decide +kernel
theorem d_X12_isBroken_0 : decode cX12_isBroken 0 = .ok (.aload_n 0, 1) := by decide +kernel
theorem d_X12_isBroken_1 : decode cX12_isBroken 1 = .ok (.getfield 99, 3) := by decide +kernel
theorem d_X12_isBroken_4 : decode cX12_isBroken 4 = .ok (.bipush 99, 2) := by decide +kernel
theorem d_X12_isBroken_6 : decode cX12_isBroken 6 = .ok (.iload_n 1, 1) := by decide +kernel
theorem d_X12_isBroken_7 : decode cX12_isBroken 7 = .ok (.iadd, 1) := by decide +kernel
theorem d_X12_isBroken_8 : decode cX12_isBroken 8 = .ok (.iaload, 1) := by decide +kernel
theorem d_X12_isBroken_9 : decode cX12_isBroken 9 = .ok (.iconst 1, 1) := by decide +kernel
theorem d_X12_isBroken_10 : decode cX12_isBroken 10 = .ok (.if_icmp .ne 7, 3) := by decide +kernel
theorem d_X12_isBroken_13 : decode cX12_isBroken 13 = .ok (.iconst 1, 1) := by decide +kernel
theorem d_X12_isBroken_14 : decode cX12_isBroken 14 = .ok (.goto 4, 3) := by decide +kernel
theorem d_X12_isBroken_17 : decode cX12_isBroken 17 = .ok (.iconst 0, 1) := by decide +kernel
theorem d_X12_isBroken_18 : decode cX12_isBroken 18 = .ok (.ireturn, 1) := by decide +kernel
theorem d_X12_inForest_0 : decode cX12_inForest 0 = .ok (.iconst 0, 1) := by decide +kernel
theorem d_X12_inForest_1 : decode cX12_inForest 1 = .ok (.istore_n 2, 1) := by decide +kernel
theorem d_X12_inForest_2 : decode cX12_inForest 2 = .ok (.iconst 0, 1) := by decide +kernel
theorem d_X12_inForest_3 : decode cX12_inForest 3 = .ok (.istore_n 3, 1) := by decide +kernel
theorem d_X12_inForest_4 : decode cX12_inForest 4 = .ok (.iload_n 3, 1) := by decide +kernel
theorem d_X12_inForest_5 : decode cX12_inForest 5 = .ok (.aload_n 0, 1) := by decide +kernel
theorem d_X12_inForest_6 : decode cX12_inForest 6 = .ok (.invokevirtual 194, 3) := by decide +kernel
theorem d_X12_inForest_9 : decode cX12_inForest 9 = .ok (.if_icmp .ge 24, 3) := by decide +kernel
theorem d_X12_inForest_12 : decode cX12_inForest 12 = .ok (.aload_n 0, 1) := by decide +kernel
theorem d_X12_inForest_13 : decode cX12_inForest 13 = .ok (.iload_n 3, 1) := by decide +kernel
theorem d_X12_inForest_14 : decode cX12_inForest 14 = .ok (.invokevirtual 203, 3) := by decide +kernel
theorem d_X12_inForest_17 : decode cX12_inForest 17 = .ok (.iload_n 1, 1) := by decide +kernel
theorem d_X12_inForest_18 : decode cX12_inForest 18 = .ok (.if_icmp .ne 9, 3) := by decide +kernel
theorem d_X12_inForest_21 : decode cX12_inForest 21 = .ok (.iload_n 2, 1) := by decide +kernel
theorem d_X12_inForest_22 : decode cX12_inForest 22 = .ok (.iconst 1, 1) := by decide +kernel
theorem d_X12_inForest_23 : decode cX12_inForest 23 = .ok (.iload_n 3, 1) := by decide +kernel
theorem d_X12_inForest_24 : decode cX12_inForest 24 = .ok (.ishl, 1) := by decide +kernel
theorem d_X12_inForest_25 : decode cX12_inForest 25 = .ok (.ior, 1) := by decide +kernel
theorem d_X12_inForest_26 : decode cX12_inForest 26 = .ok (.istore_n 2, 1) := by decide +kernel
theorem d_X12_inForest_27 : decode cX12_inForest 27 = .ok (.iinc 3 1, 3) := by decide +kernel
theorem d_X12_inForest_30 : decode cX12_inForest 30 = .ok (.goto (-26), 3) := by decide +kernel
theorem d_X12_inForest_33 : decode cX12_inForest 33 = .ok (.iload_n 2, 1) := by decide +kernel
theorem d_X12_inForest_34 : decode cX12_inForest 34 = .ok (.ireturn, 1) := by decide +kernel
theorem d_X12_has_0 : decode cX12_has 0 = .ok (.iload_n 0, 1) := by decide +kernel
theorem d_X12_has_1 : decode cX12_has 1 = .ok (.iload_n 1, 1) := by decide +kernel
theorem d_X12_has_2 : decode cX12_has 2 = .ok (.ishr, 1) := by decide +kernel
theorem d_X12_has_3 : decode cX12_has 3 = .ok (.iconst 1, 1) := by decide +kernel
theorem d_X12_has_4 : decode cX12_has 4 = .ok (.iand, 1) := by decide +kernel
theorem d_X12_has_5 : decode cX12_has 5 = .ok (.iconst 1, 1) := by decide +kernel
theorem d_X12_has_6 : decode cX12_has 6 = .ok (.if_icmp .ne 7, 3) := by decide +kernel
theorem d_X12_has_9 : decode cX12_has 9 = .ok (.iconst 1, 1) := by decide +kernel
theorem d_X12_has_10 : decode cX12_has 10 = .ok (.goto 4, 3) := by decide +kernel
theorem d_X12_has_13 : decode cX12_has 13 = .ok (.iconst 0, 1) := by decide +kernel
theorem d_X12_has_14 : decode cX12_has 14 = .ok (.ireturn, 1) := by decide +kernel
theorem d_X12_ends_0 : decode cX12_ends 0 = .ok (.iconst 1, 1) := by decide +kernel
theorem d_X12_ends_1 : decode cX12_ends 1 = .ok (.aload_n 0, 1) := by decide +kernel
theorem d_X12_ends_2 : decode cX12_ends 2 = .ok (.getfield 99, 3) := by decide +kernel
theorem d_X12_ends_5 : decode cX12_ends 5 = .ok (.iconst 3, 1) := by decide +kernel
theorem d_X12_ends_6 : decode cX12_ends 6 = .ok (.iload_n 1, 1) := by decide +kernel
theorem d_X12_ends_7 : decode cX12_ends 7 = .ok (.iadd, 1) := by decide +kernel
theorem d_X12_ends_8 : decode cX12_ends 8 = .ok (.iaload, 1) := by decide +kernel
theorem d_X12_ends_9 : decode cX12_ends 9 = .ok (.ishl, 1) := by decide +kernel
theorem d_X12_ends_10 : decode cX12_ends 10 = .ok (.iconst 1, 1) := by decide +kernel
theorem d_X12_ends_11 : decode cX12_ends 11 = .ok (.aload_n 0, 1) := by decide +kernel
theorem d_X12_ends_12 : decode cX12_ends 12 = .ok (.getfield 99, 3) := by decide +kernel
theorem d_X12_ends_15 : decode cX12_ends 15 = .ok (.bipush 27, 2) := by decide +kernel
theorem d_X12_ends_17 : decode cX12_ends 17 = .ok (.iload_n 1, 1) := by decide +kernel
theorem d_X12_ends_18 : decode cX12_ends 18 = .ok (.iadd, 1) := by decide +kernel
theorem d_X12_ends_19 : decode cX12_ends 19 = .ok (.iaload, 1) := by decide +kernel
theorem d_X12_ends_20 : decode cX12_ends 20 = .ok (.ishl, 1) := by decide +kernel
theorem d_X12_ends_21 : decode cX12_ends 21 = .ok (.ior, 1) := by decide +kernel
theorem d_X12_ends_22 : decode cX12_ends 22 = .ok (.ireturn, 1) := by decide +kernel
theorem d_X12_joined_0 : decode cX12_joined 0 = .ok (.iconst 1, 1) := by decide +kernel
theorem d_X12_joined_1 : decode cX12_joined 1 = .ok (.iload_n 1, 1) := by decide +kernel
theorem d_X12_joined_2 : decode cX12_joined 2 = .ok (.ishl, 1) := by decide +kernel
theorem d_X12_joined_3 : decode cX12_joined 3 = .ok (.istore_n 3, 1) := by decide +kernel
theorem d_X12_joined_4 : decode cX12_joined 4 = .ok (.iconst 0, 1) := by decide +kernel
theorem d_X12_joined_5 : decode cX12_joined 5 = .ok (.istore 4, 2) := by decide +kernel
theorem d_X12_joined_7 : decode cX12_joined 7 = .ok (.iload_n 3, 1) := by decide +kernel
theorem d_X12_joined_8 : decode cX12_joined 8 = .ok (.iload 4, 2) := by decide +kernel
theorem d_X12_joined_10 : decode cX12_joined 10 = .ok (.if_icmp .eq 56, 3) := by decide +kernel
theorem d_X12_joined_13 : decode cX12_joined 13 = .ok (.iload_n 3, 1) := by decide +kernel
theorem d_X12_joined_14 : decode cX12_joined 14 = .ok (.istore 4, 2) := by decide +kernel
theorem d_X12_joined_16 : decode cX12_joined 16 = .ok (.iconst 0, 1) := by decide +kernel
theorem d_X12_joined_17 : decode cX12_joined 17 = .ok (.istore 5, 2) := by decide +kernel
theorem d_X12_joined_19 : decode cX12_joined 19 = .ok (.iload 5, 2) := by decide +kernel
theorem d_X12_joined_21 : decode cX12_joined 21 = .ok (.aload_n 0, 1) := by decide +kernel
theorem d_X12_joined_22 : decode cX12_joined 22 = .ok (.invokevirtual 194, 3) := by decide +kernel
theorem d_X12_joined_25 : decode cX12_joined 25 = .ok (.if_icmp .ge 38, 3) := by decide +kernel
theorem d_X12_joined_28 : decode cX12_joined 28 = .ok (.iload_n 2, 1) := by decide +kernel
theorem d_X12_joined_29 : decode cX12_joined 29 = .ok (.iload 5, 2) := by decide +kernel
theorem d_X12_joined_31 : decode cX12_joined 31 = .ok (.invokestatic 206, 3) := by decide +kernel
theorem d_X12_joined_34 : decode cX12_joined 34 = .ok (.ifCond .eq 23, 3) := by decide +kernel
theorem d_X12_joined_37 : decode cX12_joined 37 = .ok (.aload_n 0, 1) := by decide +kernel
theorem d_X12_joined_38 : decode cX12_joined 38 = .ok (.iload 5, 2) := by decide +kernel
theorem d_X12_joined_40 : decode cX12_joined 40 = .ok (.invokevirtual 209, 3) := by decide +kernel
theorem d_X12_joined_43 : decode cX12_joined 43 = .ok (.iload_n 3, 1) := by decide +kernel
theorem d_X12_joined_44 : decode cX12_joined 44 = .ok (.iand, 1) := by decide +kernel
theorem d_X12_joined_45 : decode cX12_joined 45 = .ok (.ifCond .eq 12, 3) := by decide +kernel
theorem d_X12_joined_48 : decode cX12_joined 48 = .ok (.iload_n 3, 1) := by decide +kernel
theorem d_X12_joined_49 : decode cX12_joined 49 = .ok (.aload_n 0, 1) := by decide +kernel
theorem d_X12_joined_50 : decode cX12_joined 50 = .ok (.iload 5, 2) := by decide +kernel
theorem d_X12_joined_52 : decode cX12_joined 52 = .ok (.invokevirtual 209, 3) := by decide +kernel
theorem d_X12_joined_55 : decode cX12_joined 55 = .ok (.ior, 1) := by decide +kernel
theorem d_X12_joined_56 : decode cX12_joined 56 = .ok (.istore_n 3, 1) := by decide +kernel
theorem d_X12_joined_57 : decode cX12_joined 57 = .ok (.iinc 5 1, 3) := by decide +kernel
theorem d_X12_joined_60 : decode cX12_joined 60 = .ok (.goto (-41), 3) := by decide +kernel
theorem d_X12_joined_63 : decode cX12_joined 63 = .ok (.goto (-56), 3) := by decide +kernel
theorem d_X12_joined_66 : decode cX12_joined 66 = .ok (.iload_n 3, 1) := by decide +kernel
theorem d_X12_joined_67 : decode cX12_joined 67 = .ok (.ireturn, 1) := by decide +kernel
theorem d_X12_ringIn_0 : decode cX12_ringIn 0 = .ok (.aload_n 0, 1) := by decide +kernel
theorem d_X12_ringIn_1 : decode cX12_ringIn 1 = .ok (.getfield 99, 3) := by decide +kernel
theorem d_X12_ringIn_4 : decode cX12_ringIn 4 = .ok (.iconst 3, 1) := by decide +kernel
theorem d_X12_ringIn_5 : decode cX12_ringIn 5 = .ok (.iload_n 1, 1) := by decide +kernel
theorem d_X12_ringIn_6 : decode cX12_ringIn 6 = .ok (.iadd, 1) := by decide +kernel
theorem d_X12_ringIn_7 : decode cX12_ringIn 7 = .ok (.iaload, 1) := by decide +kernel
theorem d_X12_ringIn_8 : decode cX12_ringIn 8 = .ok (.istore_n 3, 1) := by decide +kernel
theorem d_X12_ringIn_9 : decode cX12_ringIn 9 = .ok (.aload_n 0, 1) := by decide +kernel
theorem d_X12_ringIn_10 : decode cX12_ringIn 10 = .ok (.getfield 99, 3) := by decide +kernel
theorem d_X12_ringIn_13 : decode cX12_ringIn 13 = .ok (.bipush 27, 2) := by decide +kernel
theorem d_X12_ringIn_15 : decode cX12_ringIn 15 = .ok (.iload_n 1, 1) := by decide +kernel
theorem d_X12_ringIn_16 : decode cX12_ringIn 16 = .ok (.iadd, 1) := by decide +kernel
theorem d_X12_ringIn_17 : decode cX12_ringIn 17 = .ok (.iaload, 1) := by decide +kernel
theorem d_X12_ringIn_18 : decode cX12_ringIn 18 = .ok (.istore 4, 2) := by decide +kernel
theorem d_X12_ringIn_20 : decode cX12_ringIn 20 = .ok (.aload_n 0, 1) := by decide +kernel
theorem d_X12_ringIn_21 : decode cX12_ringIn 21 = .ok (.iload_n 3, 1) := by decide +kernel
theorem d_X12_ringIn_22 : decode cX12_ringIn 22 = .ok (.iload_n 2, 1) := by decide +kernel
theorem d_X12_ringIn_23 : decode cX12_ringIn 23 = .ok (.invokevirtual 212, 3) := by decide +kernel
theorem d_X12_ringIn_26 : decode cX12_ringIn 26 = .ok (.iload 4, 2) := by decide +kernel
theorem d_X12_ringIn_28 : decode cX12_ringIn 28 = .ok (.invokestatic 206, 3) := by decide +kernel
theorem d_X12_ringIn_31 : decode cX12_ringIn 31 = .ok (.ifCond .ne 5, 3) := by decide +kernel
theorem d_X12_ringIn_34 : decode cX12_ringIn 34 = .ok (.iconst 0, 1) := by decide +kernel
theorem d_X12_ringIn_35 : decode cX12_ringIn 35 = .ok (.ireturn, 1) := by decide +kernel
theorem d_X12_ringIn_36 : decode cX12_ringIn 36 = .ok (.iconst 0, 1) := by decide +kernel
theorem d_X12_ringIn_37 : decode cX12_ringIn 37 = .ok (.istore 5, 2) := by decide +kernel
theorem d_X12_ringIn_39 : decode cX12_ringIn 39 = .ok (.iconst 0, 1) := by decide +kernel
theorem d_X12_ringIn_40 : decode cX12_ringIn 40 = .ok (.istore 6, 2) := by decide +kernel
theorem d_X12_ringIn_42 : decode cX12_ringIn 42 = .ok (.iload 6, 2) := by decide +kernel
theorem d_X12_ringIn_44 : decode cX12_ringIn 44 = .ok (.aload_n 0, 1) := by decide +kernel
theorem d_X12_ringIn_45 : decode cX12_ringIn 45 = .ok (.invokevirtual 194, 3) := by decide +kernel
theorem d_X12_ringIn_48 : decode cX12_ringIn 48 = .ok (.if_icmp .ge 48, 3) := by decide +kernel
theorem d_X12_ringIn_51 : decode cX12_ringIn 51 = .ok (.iload_n 2, 1) := by decide +kernel
theorem d_X12_ringIn_52 : decode cX12_ringIn 52 = .ok (.iload 6, 2) := by decide +kernel
theorem d_X12_ringIn_54 : decode cX12_ringIn 54 = .ok (.invokestatic 206, 3) := by decide +kernel
theorem d_X12_ringIn_57 : decode cX12_ringIn 57 = .ok (.ifCond .eq 33, 3) := by decide +kernel
theorem d_X12_ringIn_60 : decode cX12_ringIn 60 = .ok (.aload_n 0, 1) := by decide +kernel
theorem d_X12_ringIn_61 : decode cX12_ringIn 61 = .ok (.iload_n 3, 1) := by decide +kernel
theorem d_X12_ringIn_62 : decode cX12_ringIn 62 = .ok (.iload_n 2, 1) := by decide +kernel
theorem d_X12_ringIn_63 : decode cX12_ringIn 63 = .ok (.iconst 1, 1) := by decide +kernel
theorem d_X12_ringIn_64 : decode cX12_ringIn 64 = .ok (.iload 6, 2) := by decide +kernel
theorem d_X12_ringIn_66 : decode cX12_ringIn 66 = .ok (.ishl, 1) := by decide +kernel
theorem d_X12_ringIn_67 : decode cX12_ringIn 67 = .ok (.iconst (-1), 1) := by decide +kernel
theorem d_X12_ringIn_68 : decode cX12_ringIn 68 = .ok (.ixor, 1) := by decide +kernel
theorem d_X12_ringIn_69 : decode cX12_ringIn 69 = .ok (.iand, 1) := by decide +kernel
theorem d_X12_ringIn_70 : decode cX12_ringIn 70 = .ok (.invokevirtual 212, 3) := by decide +kernel
theorem d_X12_ringIn_73 : decode cX12_ringIn 73 = .ok (.iload 4, 2) := by decide +kernel
theorem d_X12_ringIn_75 : decode cX12_ringIn 75 = .ok (.invokestatic 206, 3) := by decide +kernel
theorem d_X12_ringIn_78 : decode cX12_ringIn 78 = .ok (.ifCond .ne 12, 3) := by decide +kernel
theorem d_X12_ringIn_81 : decode cX12_ringIn 81 = .ok (.iload 5, 2) := by decide +kernel
theorem d_X12_ringIn_83 : decode cX12_ringIn 83 = .ok (.iconst 1, 1) := by decide +kernel
theorem d_X12_ringIn_84 : decode cX12_ringIn 84 = .ok (.iload 6, 2) := by decide +kernel
theorem d_X12_ringIn_86 : decode cX12_ringIn 86 = .ok (.ishl, 1) := by decide +kernel
theorem d_X12_ringIn_87 : decode cX12_ringIn 87 = .ok (.ior, 1) := by decide +kernel
theorem d_X12_ringIn_88 : decode cX12_ringIn 88 = .ok (.istore 5, 2) := by decide +kernel
theorem d_X12_ringIn_90 : decode cX12_ringIn 90 = .ok (.iinc 6 1, 3) := by decide +kernel
theorem d_X12_ringIn_93 : decode cX12_ringIn 93 = .ok (.goto (-51), 3) := by decide +kernel
theorem d_X12_ringIn_96 : decode cX12_ringIn 96 = .ok (.iload 5, 2) := by decide +kernel
theorem d_X12_ringIn_98 : decode cX12_ringIn 98 = .ok (.ireturn, 1) := by decide +kernel
theorem d_X12_ring_0 : decode cX12_ring 0 = .ok (.aload_n 0, 1) := by decide +kernel
theorem d_X12_ring_1 : decode cX12_ring 1 = .ok (.iconst 0, 1) := by decide +kernel
theorem d_X12_ring_2 : decode cX12_ring 2 = .ok (.putfield 1, 3) := by decide +kernel
theorem d_X12_ring_5 : decode cX12_ring 5 = .ok (.aload_n 0, 1) := by decide +kernel
theorem d_X12_ring_6 : decode cX12_ring 6 = .ok (.iload_n 1, 1) := by decide +kernel
theorem d_X12_ring_7 : decode cX12_ring 7 = .ok (.invokevirtual 218, 3) := by decide +kernel
theorem d_X12_ring_10 : decode cX12_ring 10 = .ok (.ifCond .eq 28, 3) := by decide +kernel
theorem d_X12_ring_13 : decode cX12_ring 13 = .ok (.aload_n 0, 1) := by decide +kernel
theorem d_X12_ring_14 : decode cX12_ring 14 = .ok (.iload_n 2, 1) := by decide +kernel
theorem d_X12_ring_15 : decode cX12_ring 15 = .ok (.invokevirtual 224, 3) := by decide +kernel
theorem d_X12_ring_18 : decode cX12_ring 18 = .ok (.ifCond .eq 20, 3) := by decide +kernel
theorem d_X12_ring_21 : decode cX12_ring 21 = .ok (.aload_n 0, 1) := by decide +kernel
theorem d_X12_ring_22 : decode cX12_ring 22 = .ok (.iload_n 1, 1) := by decide +kernel
theorem d_X12_ring_23 : decode cX12_ring 23 = .ok (.invokevirtual 200, 3) := by decide +kernel
theorem d_X12_ring_26 : decode cX12_ring 26 = .ok (.ifCond .ne 12, 3) := by decide +kernel
theorem d_X12_ring_29 : decode cX12_ring 29 = .ok (.aload_n 0, 1) := by decide +kernel
theorem d_X12_ring_30 : decode cX12_ring 30 = .ok (.iload_n 1, 1) := by decide +kernel
theorem d_X12_ring_31 : decode cX12_ring 31 = .ok (.invokevirtual 203, 3) := by decide +kernel
theorem d_X12_ring_34 : decode cX12_ring 34 = .ok (.iload_n 2, 1) := by decide +kernel
theorem d_X12_ring_35 : decode cX12_ring 35 = .ok (.if_icmp .ne 8, 3) := by decide +kernel
theorem d_X12_ring_38 : decode cX12_ring 38 = .ok (.aload_n 0, 1) := by decide +kernel
theorem d_X12_ring_39 : decode cX12_ring 39 = .ok (.invokevirtual 221, 3) := by decide +kernel
theorem d_X12_ring_42 : decode cX12_ring 42 = .ok (.ireturn, 1) := by decide +kernel
theorem d_X12_ring_43 : decode cX12_ring 43 = .ok (.aload_n 0, 1) := by decide +kernel
theorem d_X12_ring_44 : decode cX12_ring 44 = .ok (.iload_n 1, 1) := by decide +kernel
theorem d_X12_ring_45 : decode cX12_ring 45 = .ok (.aload_n 0, 1) := by decide +kernel
theorem d_X12_ring_46 : decode cX12_ring 46 = .ok (.iload_n 2, 1) := by decide +kernel
theorem d_X12_ring_47 : decode cX12_ring 47 = .ok (.invokevirtual 227, 3) := by decide +kernel
theorem d_X12_ring_50 : decode cX12_ring 50 = .ok (.invokevirtual 230, 3) := by decide +kernel
theorem d_X12_ring_53 : decode cX12_ring 53 = .ok (.ireturn, 1) := by decide +kernel
theorem d_X12_forest_0 : decode cX12_forest 0 = .ok (.aload_n 0, 1) := by decide +kernel
theorem d_X12_forest_1 : decode cX12_forest 1 = .ok (.iconst 0, 1) := by decide +kernel
theorem d_X12_forest_2 : decode cX12_forest 2 = .ok (.putfield 1, 3) := by decide +kernel
theorem d_X12_forest_5 : decode cX12_forest 5 = .ok (.aload_n 0, 1) := by decide +kernel
theorem d_X12_forest_6 : decode cX12_forest 6 = .ok (.iload_n 1, 1) := by decide +kernel
theorem d_X12_forest_7 : decode cX12_forest 7 = .ok (.invokevirtual 224, 3) := by decide +kernel
theorem d_X12_forest_10 : decode cX12_forest 10 = .ok (.ifCond .eq 11, 3) := by decide +kernel
theorem d_X12_forest_13 : decode cX12_forest 13 = .ok (.aload_n 0, 1) := by decide +kernel
theorem d_X12_forest_14 : decode cX12_forest 14 = .ok (.iload_n 1, 1) := by decide +kernel
theorem d_X12_forest_15 : decode cX12_forest 15 = .ok (.invokevirtual 227, 3) := by decide +kernel
theorem d_X12_forest_18 : decode cX12_forest 18 = .ok (.goto 4, 3) := by decide +kernel
theorem d_X12_forest_21 : decode cX12_forest 21 = .ok (.iconst (-1), 1) := by decide +kernel
theorem d_X12_forest_22 : decode cX12_forest 22 = .ok (.ireturn, 1) := by decide +kernel
theorem d_X12_points_0 : decode cX12_points 0 = .ok (.aload_n 0, 1) := by decide +kernel
theorem d_X12_points_1 : decode cX12_points 1 = .ok (.getfield 99, 3) := by decide +kernel
theorem d_X12_points_4 : decode cX12_points 4 = .ok (.iconst 0, 1) := by decide +kernel
theorem d_X12_points_5 : decode cX12_points 5 = .ok (.iaload, 1) := by decide +kernel
theorem d_X12_points_6 : decode cX12_points 6 = .ok (.ireturn, 1) := by decide +kernel
theorem d_X12_pieces_0 : decode cX12_pieces 0 = .ok (.iconst 1, 1) := by decide +kernel
theorem d_X12_pieces_1 : decode cX12_pieces 1 = .ok (.aload_n 0, 1) := by decide +kernel
theorem d_X12_pieces_2 : decode cX12_pieces 2 = .ok (.invokevirtual 191, 3) := by decide +kernel
theorem d_X12_pieces_5 : decode cX12_pieces 5 = .ok (.ishl, 1) := by decide +kernel
theorem d_X12_pieces_6 : decode cX12_pieces 6 = .ok (.iconst 1, 1) := by decide +kernel
theorem d_X12_pieces_7 : decode cX12_pieces 7 = .ok (.isub, 1) := by decide +kernel
theorem d_X12_pieces_8 : decode cX12_pieces 8 = .ok (.istore_n 2, 1) := by decide +kernel
theorem d_X12_pieces_9 : decode cX12_pieces 9 = .ok (.iconst 0, 1) := by decide +kernel
theorem d_X12_pieces_10 : decode cX12_pieces 10 = .ok (.istore_n 3, 1) := by decide +kernel
theorem d_X12_pieces_11 : decode cX12_pieces 11 = .ok (.iconst 0, 1) := by decide +kernel
theorem d_X12_pieces_12 : decode cX12_pieces 12 = .ok (.istore 4, 2) := by decide +kernel
theorem d_X12_pieces_14 : decode cX12_pieces 14 = .ok (.iload 4, 2) := by decide +kernel
theorem d_X12_pieces_16 : decode cX12_pieces 16 = .ok (.aload_n 0, 1) := by decide +kernel
theorem d_X12_pieces_17 : decode cX12_pieces 17 = .ok (.invokevirtual 191, 3) := by decide +kernel
theorem d_X12_pieces_20 : decode cX12_pieces 20 = .ok (.if_icmp .ge 36, 3) := by decide +kernel
theorem d_X12_pieces_23 : decode cX12_pieces 23 = .ok (.iload_n 2, 1) := by decide +kernel
theorem d_X12_pieces_24 : decode cX12_pieces 24 = .ok (.iload 4, 2) := by decide +kernel
theorem d_X12_pieces_26 : decode cX12_pieces 26 = .ok (.invokestatic 206, 3) := by decide +kernel
theorem d_X12_pieces_29 : decode cX12_pieces 29 = .ok (.ifCond .ne 6, 3) := by decide +kernel
theorem d_X12_pieces_32 : decode cX12_pieces 32 = .ok (.goto 18, 3) := by decide +kernel
theorem d_X12_pieces_35 : decode cX12_pieces 35 = .ok (.iload_n 2, 1) := by decide +kernel
theorem d_X12_pieces_36 : decode cX12_pieces 36 = .ok (.aload_n 0, 1) := by decide +kernel
theorem d_X12_pieces_37 : decode cX12_pieces 37 = .ok (.iload 4, 2) := by decide +kernel
theorem d_X12_pieces_39 : decode cX12_pieces 39 = .ok (.iload_n 1, 1) := by decide +kernel
theorem d_X12_pieces_40 : decode cX12_pieces 40 = .ok (.invokevirtual 212, 3) := by decide +kernel
theorem d_X12_pieces_43 : decode cX12_pieces 43 = .ok (.iconst (-1), 1) := by decide +kernel
theorem d_X12_pieces_44 : decode cX12_pieces 44 = .ok (.ixor, 1) := by decide +kernel
theorem d_X12_pieces_45 : decode cX12_pieces 45 = .ok (.iand, 1) := by decide +kernel
theorem d_X12_pieces_46 : decode cX12_pieces 46 = .ok (.istore_n 2, 1) := by decide +kernel
theorem d_X12_pieces_47 : decode cX12_pieces 47 = .ok (.iinc 3 1, 3) := by decide +kernel
theorem d_X12_pieces_50 : decode cX12_pieces 50 = .ok (.iinc 4 1, 3) := by decide +kernel
theorem d_X12_pieces_53 : decode cX12_pieces 53 = .ok (.goto (-39), 3) := by decide +kernel
theorem d_X12_pieces_56 : decode cX12_pieces 56 = .ok (.iload_n 3, 1) := by decide +kernel
theorem d_X12_pieces_57 : decode cX12_pieces 57 = .ok (.ireturn, 1) := by decide +kernel
theorem d_X12_sound_0 : decode cX12_sound 0 = .ok (.iconst 0, 1) := by decide +kernel
theorem d_X12_sound_1 : decode cX12_sound 1 = .ok (.istore_n 1, 1) := by decide +kernel
theorem d_X12_sound_2 : decode cX12_sound 2 = .ok (.iconst 0, 1) := by decide +kernel
theorem d_X12_sound_3 : decode cX12_sound 3 = .ok (.istore_n 2, 1) := by decide +kernel
theorem d_X12_sound_4 : decode cX12_sound 4 = .ok (.iload_n 2, 1) := by decide +kernel
theorem d_X12_sound_5 : decode cX12_sound 5 = .ok (.aload_n 0, 1) := by decide +kernel
theorem d_X12_sound_6 : decode cX12_sound 6 = .ok (.invokevirtual 194, 3) := by decide +kernel
theorem d_X12_sound_9 : decode cX12_sound 9 = .ok (.if_icmp .ge 23, 3) := by decide +kernel
theorem d_X12_sound_12 : decode cX12_sound 12 = .ok (.aload_n 0, 1) := by decide +kernel
theorem d_X12_sound_13 : decode cX12_sound 13 = .ok (.iload_n 2, 1) := by decide +kernel
theorem d_X12_sound_14 : decode cX12_sound 14 = .ok (.invokevirtual 200, 3) := by decide +kernel
theorem d_X12_sound_17 : decode cX12_sound 17 = .ok (.ifCond .ne 9, 3) := by decide +kernel
theorem d_X12_sound_20 : decode cX12_sound 20 = .ok (.iload_n 1, 1) := by decide +kernel
theorem d_X12_sound_21 : decode cX12_sound 21 = .ok (.iconst 1, 1) := by decide +kernel
theorem d_X12_sound_22 : decode cX12_sound 22 = .ok (.iload_n 2, 1) := by decide +kernel
theorem d_X12_sound_23 : decode cX12_sound 23 = .ok (.ishl, 1) := by decide +kernel
theorem d_X12_sound_24 : decode cX12_sound 24 = .ok (.ior, 1) := by decide +kernel
theorem d_X12_sound_25 : decode cX12_sound 25 = .ok (.istore_n 1, 1) := by decide +kernel
theorem d_X12_sound_26 : decode cX12_sound 26 = .ok (.iinc 2 1, 3) := by decide +kernel
theorem d_X12_sound_29 : decode cX12_sound 29 = .ok (.goto (-25), 3) := by decide +kernel
theorem d_X12_sound_32 : decode cX12_sound 32 = .ok (.iload_n 1, 1) := by decide +kernel
theorem d_X12_sound_33 : decode cX12_sound 33 = .ok (.ireturn, 1) := by decide +kernel
theorem d_X12_bits_0 : decode cX12_bits 0 = .ok (.iconst 0, 1) := by decide +kernel
theorem d_X12_bits_1 : decode cX12_bits 1 = .ok (.istore_n 1, 1) := by decide +kernel
theorem d_X12_bits_2 : decode cX12_bits 2 = .ok (.iload_n 0, 1) := by decide +kernel
theorem d_X12_bits_3 : decode cX12_bits 3 = .ok (.istore_n 2, 1) := by decide +kernel
theorem d_X12_bits_4 : decode cX12_bits 4 = .ok (.iload_n 2, 1) := by decide +kernel
theorem d_X12_bits_5 : decode cX12_bits 5 = .ok (.ifCond .eq 15, 3) := by decide +kernel
theorem d_X12_bits_8 : decode cX12_bits 8 = .ok (.iinc 1 1, 3) := by decide +kernel
theorem d_X12_bits_11 : decode cX12_bits 11 = .ok (.iload_n 2, 1) := by decide +kernel
theorem d_X12_bits_12 : decode cX12_bits 12 = .ok (.iload_n 2, 1) := by decide +kernel
theorem d_X12_bits_13 : decode cX12_bits 13 = .ok (.iconst 1, 1) := by decide +kernel
theorem d_X12_bits_14 : decode cX12_bits 14 = .ok (.isub, 1) := by decide +kernel
theorem d_X12_bits_15 : decode cX12_bits 15 = .ok (.iand, 1) := by decide +kernel
theorem d_X12_bits_16 : decode cX12_bits 16 = .ok (.istore_n 2, 1) := by decide +kernel
theorem d_X12_bits_17 : decode cX12_bits 17 = .ok (.goto (-13), 3) := by decide +kernel
theorem d_X12_bits_20 : decode cX12_bits 20 = .ok (.iload_n 1, 1) := by decide +kernel
theorem d_X12_bits_21 : decode cX12_bits 21 = .ok (.ireturn, 1) := by decide +kernel
theorem d_X12_now_0 : decode cX12_now 0 = .ok (.aload_n 0, 1) := by decide +kernel
theorem d_X12_now_1 : decode cX12_now 1 = .ok (.iconst 0, 1) := by decide +kernel
theorem d_X12_now_2 : decode cX12_now 2 = .ok (.putfield 1, 3) := by decide +kernel
theorem d_X12_now_5 : decode cX12_now 5 = .ok (.iload_n 1, 1) := by decide +kernel
theorem d_X12_now_6 : decode cX12_now 6 = .ok (.tableswitch 134 0 8 #[50, 55, 60, 65, 73, 105, 114, 124, 129], 50) := by decide +kernel
theorem d_X12_now_56 : decode cX12_now 56 = .ok (.aload_n 0, 1) := by decide +kernel
theorem d_X12_now_57 : decode cX12_now 57 = .ok (.invokevirtual 191, 3) := by decide +kernel
theorem d_X12_now_60 : decode cX12_now 60 = .ok (.ireturn, 1) := by decide +kernel
theorem d_X12_now_61 : decode cX12_now 61 = .ok (.aload_n 0, 1) := by decide +kernel
theorem d_X12_now_62 : decode cX12_now 62 = .ok (.invokevirtual 194, 3) := by decide +kernel
theorem d_X12_now_65 : decode cX12_now 65 = .ok (.ireturn, 1) := by decide +kernel
theorem d_X12_now_66 : decode cX12_now 66 = .ok (.aload_n 0, 1) := by decide +kernel
theorem d_X12_now_67 : decode cX12_now 67 = .ok (.invokevirtual 197, 3) := by decide +kernel
theorem d_X12_now_70 : decode cX12_now 70 = .ok (.ireturn, 1) := by decide +kernel
theorem d_X12_now_71 : decode cX12_now 71 = .ok (.aload_n 0, 1) := by decide +kernel
theorem d_X12_now_72 : decode cX12_now 72 = .ok (.invokevirtual 233, 3) := by decide +kernel
theorem d_X12_now_75 : decode cX12_now 75 = .ok (.invokestatic 236, 3) := by decide +kernel
theorem d_X12_now_78 : decode cX12_now 78 = .ok (.ireturn, 1) := by decide +kernel
theorem d_X12_now_79 : decode cX12_now 79 = .ok (.iconst 0, 1) := by decide +kernel
theorem d_X12_now_80 : decode cX12_now 80 = .ok (.istore_n 2, 1) := by decide +kernel
theorem d_X12_now_81 : decode cX12_now 81 = .ok (.iconst 0, 1) := by decide +kernel
theorem d_X12_now_82 : decode cX12_now 82 = .ok (.istore_n 3, 1) := by decide +kernel
theorem d_X12_now_83 : decode cX12_now 83 = .ok (.iload_n 3, 1) := by decide +kernel
theorem d_X12_now_84 : decode cX12_now 84 = .ok (.aload_n 0, 1) := by decide +kernel
theorem d_X12_now_85 : decode cX12_now 85 = .ok (.invokevirtual 194, 3) := by decide +kernel
theorem d_X12_now_88 : decode cX12_now 88 = .ok (.if_icmp .ge 21, 3) := by decide +kernel
theorem d_X12_now_91 : decode cX12_now 91 = .ok (.aload_n 0, 1) := by decide +kernel
theorem d_X12_now_92 : decode cX12_now 92 = .ok (.iload_n 3, 1) := by decide +kernel
theorem d_X12_now_93 : decode cX12_now 93 = .ok (.invokevirtual 203, 3) := by decide +kernel
theorem d_X12_now_96 : decode cX12_now 96 = .ok (.iconst (-1), 1) := by decide +kernel
theorem d_X12_now_97 : decode cX12_now 97 = .ok (.if_icmp .eq 6, 3) := by decide +kernel
theorem d_X12_now_100 : decode cX12_now 100 = .ok (.iinc 2 1, 3) := by decide +kernel
theorem d_X12_now_103 : decode cX12_now 103 = .ok (.iinc 3 1, 3) := by decide +kernel
theorem d_X12_now_106 : decode cX12_now 106 = .ok (.goto (-23), 3) := by decide +kernel
theorem d_X12_now_109 : decode cX12_now 109 = .ok (.iload_n 2, 1) := by decide +kernel
theorem d_X12_now_110 : decode cX12_now 110 = .ok (.ireturn, 1) := by decide +kernel
theorem d_X12_now_111 : decode cX12_now 111 = .ok (.aload_n 0, 1) := by decide +kernel
theorem d_X12_now_112 : decode cX12_now 112 = .ok (.aload_n 0, 1) := by decide +kernel
theorem d_X12_now_113 : decode cX12_now 113 = .ok (.invokevirtual 233, 3) := by decide +kernel
theorem d_X12_now_116 : decode cX12_now 116 = .ok (.invokevirtual 239, 3) := by decide +kernel
theorem d_X12_now_119 : decode cX12_now 119 = .ok (.ireturn, 1) := by decide +kernel
theorem d_X12_now_120 : decode cX12_now 120 = .ok (.aload_n 0, 1) := by decide +kernel
theorem d_X12_now_121 : decode cX12_now 121 = .ok (.aload_n 0, 1) := by decide +kernel
theorem d_X12_now_122 : decode cX12_now 122 = .ok (.iconst 0, 1) := by decide +kernel
theorem d_X12_now_123 : decode cX12_now 123 = .ok (.invokevirtual 227, 3) := by decide +kernel
theorem d_X12_now_126 : decode cX12_now 126 = .ok (.invokevirtual 239, 3) := by decide +kernel
theorem d_X12_now_129 : decode cX12_now 129 = .ok (.ireturn, 1) := by decide +kernel
theorem d_X12_now_130 : decode cX12_now 130 = .ok (.aload_n 0, 1) := by decide +kernel
theorem d_X12_now_131 : decode cX12_now 131 = .ok (.getfield 188, 3) := by decide +kernel
theorem d_X12_now_134 : decode cX12_now 134 = .ok (.ireturn, 1) := by decide +kernel
theorem d_X12_now_135 : decode cX12_now 135 = .ok (.aload_n 0, 1) := by decide +kernel
theorem d_X12_now_136 : decode cX12_now 136 = .ok (.getfield 15, 3) := by decide +kernel
theorem d_X12_now_139 : decode cX12_now 139 = .ok (.ireturn, 1) := by decide +kernel
theorem d_X12_now_140 : decode cX12_now 140 = .ok (.iconst (-1), 1) := by decide +kernel
theorem d_X12_now_141 : decode cX12_now 141 = .ok (.ireturn, 1) := by decide +kernel
theorem d_X12_whyNotPut_0 : decode cX12_whyNotPut 0 = .ok (.aload_n 0, 1) := by decide +kernel
theorem d_X12_whyNotPut_1 : decode cX12_whyNotPut 1 = .ok (.iload_n 1, 1) := by decide +kernel
theorem d_X12_whyNotPut_2 : decode cX12_whyNotPut 2 = .ok (.invokevirtual 200, 3) := by decide +kernel
theorem d_X12_whyNotPut_5 : decode cX12_whyNotPut 5 = .ok (.ifCond .eq 7, 3) := by decide +kernel
theorem d_X12_whyNotPut_8 : decode cX12_whyNotPut 8 = .ok (.iconst 1, 1) := by decide +kernel
theorem d_X12_whyNotPut_9 : decode cX12_whyNotPut 9 = .ok (.goto 34, 3) := by decide +kernel
theorem d_X12_whyNotPut_12 : decode cX12_whyNotPut 12 = .ok (.aload_n 0, 1) := by decide +kernel
theorem d_X12_whyNotPut_13 : decode cX12_whyNotPut 13 = .ok (.iload_n 1, 1) := by decide +kernel
theorem d_X12_whyNotPut_14 : decode cX12_whyNotPut 14 = .ok (.invokevirtual 203, 3) := by decide +kernel
theorem d_X12_whyNotPut_17 : decode cX12_whyNotPut 17 = .ok (.iconst (-1), 1) := by decide +kernel
theorem d_X12_whyNotPut_18 : decode cX12_whyNotPut 18 = .ok (.if_icmp .eq 7, 3) := by decide +kernel
theorem d_X12_whyNotPut_21 : decode cX12_whyNotPut 21 = .ok (.iconst 2, 1) := by decide +kernel
theorem d_X12_whyNotPut_22 : decode cX12_whyNotPut 22 = .ok (.goto 21, 3) := by decide +kernel
theorem d_X12_whyNotPut_25 : decode cX12_whyNotPut 25 = .ok (.aload_n 0, 1) := by decide +kernel
theorem d_X12_whyNotPut_26 : decode cX12_whyNotPut 26 = .ok (.iload_n 1, 1) := by decide +kernel
theorem d_X12_whyNotPut_27 : decode cX12_whyNotPut 27 = .ok (.aload_n 0, 1) := by decide +kernel
theorem d_X12_whyNotPut_28 : decode cX12_whyNotPut 28 = .ok (.iload_n 2, 1) := by decide +kernel
theorem d_X12_whyNotPut_29 : decode cX12_whyNotPut 29 = .ok (.invokevirtual 227, 3) := by decide +kernel
theorem d_X12_whyNotPut_32 : decode cX12_whyNotPut 32 = .ok (.invokevirtual 230, 3) := by decide +kernel
theorem d_X12_whyNotPut_35 : decode cX12_whyNotPut 35 = .ok (.ifCond .eq 7, 3) := by decide +kernel
theorem d_X12_whyNotPut_38 : decode cX12_whyNotPut 38 = .ok (.iconst 3, 1) := by decide +kernel
theorem d_X12_whyNotPut_39 : decode cX12_whyNotPut 39 = .ok (.goto 4, 3) := by decide +kernel
theorem d_X12_whyNotPut_42 : decode cX12_whyNotPut 42 = .ok (.iconst 0, 1) := by decide +kernel
theorem d_X12_whyNotPut_43 : decode cX12_whyNotPut 43 = .ok (.ireturn, 1) := by decide +kernel
theorem d_X12_put_0 : decode cX12_put 0 = .ok (.aload_n 0, 1) := by decide +kernel
theorem d_X12_put_1 : decode cX12_put 1 = .ok (.iconst 0, 1) := by decide +kernel
theorem d_X12_put_2 : decode cX12_put 2 = .ok (.putfield 1, 3) := by decide +kernel
theorem d_X12_put_5 : decode cX12_put 5 = .ok (.aload_n 0, 1) := by decide +kernel
theorem d_X12_put_6 : decode cX12_put 6 = .ok (.iload_n 1, 1) := by decide +kernel
theorem d_X12_put_7 : decode cX12_put 7 = .ok (.invokevirtual 218, 3) := by decide +kernel
theorem d_X12_put_10 : decode cX12_put 10 = .ok (.ifCond .eq 11, 3) := by decide +kernel
theorem d_X12_put_13 : decode cX12_put 13 = .ok (.aload_n 0, 1) := by decide +kernel
theorem d_X12_put_14 : decode cX12_put 14 = .ok (.iload_n 2, 1) := by decide +kernel
theorem d_X12_put_15 : decode cX12_put 15 = .ok (.invokevirtual 224, 3) := by decide +kernel
theorem d_X12_put_18 : decode cX12_put 18 = .ok (.ifCond .ne 5, 3) := by decide +kernel
theorem d_X12_put_21 : decode cX12_put 21 = .ok (.iconst (-1), 1) := by decide +kernel
theorem d_X12_put_22 : decode cX12_put 22 = .ok (.ireturn, 1) := by decide +kernel
theorem d_X12_put_23 : decode cX12_put 23 = .ok (.aload_n 0, 1) := by decide +kernel
theorem d_X12_put_24 : decode cX12_put 24 = .ok (.iload_n 1, 1) := by decide +kernel
theorem d_X12_put_25 : decode cX12_put 25 = .ok (.iload_n 2, 1) := by decide +kernel
theorem d_X12_put_26 : decode cX12_put 26 = .ok (.invokevirtual 242, 3) := by decide +kernel
theorem d_X12_put_29 : decode cX12_put 29 = .ok (.istore_n 3, 1) := by decide +kernel
theorem d_X12_put_30 : decode cX12_put 30 = .ok (.iload_n 3, 1) := by decide +kernel
theorem d_X12_put_31 : decode cX12_put 31 = .ok (.ifCond .eq 5, 3) := by decide +kernel
theorem d_X12_put_34 : decode cX12_put 34 = .ok (.iload_n 3, 1) := by decide +kernel
theorem d_X12_put_35 : decode cX12_put 35 = .ok (.ireturn, 1) := by decide +kernel
theorem d_X12_put_36 : decode cX12_put 36 = .ok (.aload_n 0, 1) := by decide +kernel
theorem d_X12_put_37 : decode cX12_put 37 = .ok (.invokevirtual 215, 3) := by decide +kernel
theorem d_X12_put_40 : decode cX12_put 40 = .ok (.aload_n 0, 1) := by decide +kernel
theorem d_X12_put_41 : decode cX12_put 41 = .ok (.getfield 99, 3) := by decide +kernel
theorem d_X12_put_44 : decode cX12_put 44 = .ok (.bipush 75, 2) := by decide +kernel
theorem d_X12_put_46 : decode cX12_put 46 = .ok (.iload_n 1, 1) := by decide +kernel
theorem d_X12_put_47 : decode cX12_put 47 = .ok (.iadd, 1) := by decide +kernel
theorem d_X12_put_48 : decode cX12_put 48 = .ok (.iload_n 2, 1) := by decide +kernel
theorem d_X12_put_49 : decode cX12_put 49 = .ok (.iastore, 1) := by decide +kernel
theorem d_X12_put_50 : decode cX12_put 50 = .ok (.iconst 0, 1) := by decide +kernel
theorem d_X12_put_51 : decode cX12_put 51 = .ok (.ireturn, 1) := by decide +kernel
theorem d_X12_lift_0 : decode cX12_lift 0 = .ok (.aload_n 0, 1) := by decide +kernel
theorem d_X12_lift_1 : decode cX12_lift 1 = .ok (.iconst 0, 1) := by decide +kernel
theorem d_X12_lift_2 : decode cX12_lift 2 = .ok (.putfield 1, 3) := by decide +kernel
theorem d_X12_lift_5 : decode cX12_lift 5 = .ok (.aload_n 0, 1) := by decide +kernel
theorem d_X12_lift_6 : decode cX12_lift 6 = .ok (.iload_n 1, 1) := by decide +kernel
theorem d_X12_lift_7 : decode cX12_lift 7 = .ok (.invokevirtual 218, 3) := by decide +kernel
theorem d_X12_lift_10 : decode cX12_lift 10 = .ok (.ifCond .eq 12, 3) := by decide +kernel
theorem d_X12_lift_13 : decode cX12_lift 13 = .ok (.aload_n 0, 1) := by decide +kernel
theorem d_X12_lift_14 : decode cX12_lift 14 = .ok (.iload_n 1, 1) := by decide +kernel
theorem d_X12_lift_15 : decode cX12_lift 15 = .ok (.invokevirtual 203, 3) := by decide +kernel
theorem d_X12_lift_18 : decode cX12_lift 18 = .ok (.iconst (-1), 1) := by decide +kernel
theorem d_X12_lift_19 : decode cX12_lift 19 = .ok (.if_icmp .ne 5, 3) := by decide +kernel
theorem d_X12_lift_22 : decode cX12_lift 22 = .ok (.iconst (-1), 1) := by decide +kernel
theorem d_X12_lift_23 : decode cX12_lift 23 = .ok (.ireturn, 1) := by decide +kernel
theorem d_X12_lift_24 : decode cX12_lift 24 = .ok (.aload_n 0, 1) := by decide +kernel
theorem d_X12_lift_25 : decode cX12_lift 25 = .ok (.invokevirtual 215, 3) := by decide +kernel
theorem d_X12_lift_28 : decode cX12_lift 28 = .ok (.aload_n 0, 1) := by decide +kernel
theorem d_X12_lift_29 : decode cX12_lift 29 = .ok (.iload_n 1, 1) := by decide +kernel
theorem d_X12_lift_30 : decode cX12_lift 30 = .ok (.invokevirtual 203, 3) := by decide +kernel
theorem d_X12_lift_33 : decode cX12_lift 33 = .ok (.istore_n 2, 1) := by decide +kernel
theorem d_X12_lift_34 : decode cX12_lift 34 = .ok (.aload_n 0, 1) := by decide +kernel
theorem d_X12_lift_35 : decode cX12_lift 35 = .ok (.getfield 99, 3) := by decide +kernel
theorem d_X12_lift_38 : decode cX12_lift 38 = .ok (.bipush 75, 2) := by decide +kernel
theorem d_X12_lift_40 : decode cX12_lift 40 = .ok (.iload_n 1, 1) := by decide +kernel
theorem d_X12_lift_41 : decode cX12_lift 41 = .ok (.iadd, 1) := by decide +kernel
theorem d_X12_lift_42 : decode cX12_lift 42 = .ok (.iconst (-1), 1) := by decide +kernel
theorem d_X12_lift_43 : decode cX12_lift 43 = .ok (.iastore, 1) := by decide +kernel
theorem d_X12_lift_44 : decode cX12_lift 44 = .ok (.iload_n 2, 1) := by decide +kernel
theorem d_X12_lift_45 : decode cX12_lift 45 = .ok (.ireturn, 1) := by decide +kernel
theorem d_X12_isLoose_0 : decode cX12_isLoose 0 = .ok (.aload_n 0, 1) := by decide +kernel
theorem d_X12_isLoose_1 : decode cX12_isLoose 1 = .ok (.iload_n 1, 1) := by decide +kernel
theorem d_X12_isLoose_2 : decode cX12_isLoose 2 = .ok (.invokevirtual 200, 3) := by decide +kernel
theorem d_X12_isLoose_5 : decode cX12_isLoose 5 = .ok (.ifCond .ne 16, 3) := by decide +kernel
theorem d_X12_isLoose_8 : decode cX12_isLoose 8 = .ok (.aload_n 0, 1) := by decide +kernel
theorem d_X12_isLoose_9 : decode cX12_isLoose 9 = .ok (.iload_n 1, 1) := by decide +kernel
theorem d_X12_isLoose_10 : decode cX12_isLoose 10 = .ok (.invokevirtual 203, 3) := by decide +kernel
theorem d_X12_isLoose_13 : decode cX12_isLoose 13 = .ok (.iconst (-1), 1) := by decide +kernel
theorem d_X12_isLoose_14 : decode cX12_isLoose 14 = .ok (.if_icmp .ne 7, 3) := by decide +kernel
theorem d_X12_isLoose_17 : decode cX12_isLoose 17 = .ok (.iconst 1, 1) := by decide +kernel
theorem d_X12_isLoose_18 : decode cX12_isLoose 18 = .ok (.goto 4, 3) := by decide +kernel
theorem d_X12_isLoose_21 : decode cX12_isLoose 21 = .ok (.iconst 0, 1) := by decide +kernel
theorem d_X12_isLoose_22 : decode cX12_isLoose 22 = .ok (.ireturn, 1) := by decide +kernel
theorem d_X12_laysRings_0 : decode cX12_laysRings 0 = .ok (.iconst 0, 1) := by decide +kernel
theorem d_X12_laysRings_1 : decode cX12_laysRings 1 = .ok (.istore_n 1, 1) := by decide +kernel
theorem d_X12_laysRings_2 : decode cX12_laysRings 2 = .ok (.iload_n 1, 1) := by decide +kernel
theorem d_X12_laysRings_3 : decode cX12_laysRings 3 = .ok (.aload_n 0, 1) := by decide +kernel
theorem d_X12_laysRings_4 : decode cX12_laysRings 4 = .ok (.invokevirtual 194, 3) := by decide +kernel
theorem d_X12_laysRings_7 : decode cX12_laysRings 7 = .ok (.if_icmp .ge 66, 3) := by decide +kernel
theorem d_X12_laysRings_10 : decode cX12_laysRings 10 = .ok (.iconst 0, 1) := by decide +kernel
theorem d_X12_laysRings_11 : decode cX12_laysRings 11 = .ok (.istore_n 2, 1) := by decide +kernel
theorem d_X12_laysRings_12 : decode cX12_laysRings 12 = .ok (.iload_n 2, 1) := by decide +kernel
theorem d_X12_laysRings_13 : decode cX12_laysRings 13 = .ok (.aload_n 0, 1) := by decide +kernel
theorem d_X12_laysRings_14 : decode cX12_laysRings 14 = .ok (.invokevirtual 197, 3) := by decide +kernel
theorem d_X12_laysRings_17 : decode cX12_laysRings 17 = .ok (.if_icmp .ge 50, 3) := by decide +kernel
theorem d_X12_laysRings_20 : decode cX12_laysRings 20 = .ok (.aload_n 0, 1) := by decide +kernel
theorem d_X12_laysRings_21 : decode cX12_laysRings 21 = .ok (.getfield 128, 3) := by decide +kernel
theorem d_X12_laysRings_24 : decode cX12_laysRings 24 = .ok (.iconst 5, 1) := by decide +kernel
theorem d_X12_laysRings_25 : decode cX12_laysRings 25 = .ok (.iload_n 1, 1) := by decide +kernel
theorem d_X12_laysRings_26 : decode cX12_laysRings 26 = .ok (.imul, 1) := by decide +kernel
theorem d_X12_laysRings_27 : decode cX12_laysRings 27 = .ok (.iload_n 2, 1) := by decide +kernel
theorem d_X12_laysRings_28 : decode cX12_laysRings 28 = .ok (.iadd, 1) := by decide +kernel
theorem d_X12_laysRings_29 : decode cX12_laysRings 29 = .ok (.aload_n 0, 1) := by decide +kernel
theorem d_X12_laysRings_30 : decode cX12_laysRings 30 = .ok (.iload_n 1, 1) := by decide +kernel
theorem d_X12_laysRings_31 : decode cX12_laysRings 31 = .ok (.invokevirtual 203, 3) := by decide +kernel
theorem d_X12_laysRings_34 : decode cX12_laysRings 34 = .ok (.iload_n 2, 1) := by decide +kernel
theorem d_X12_laysRings_35 : decode cX12_laysRings 35 = .ok (.if_icmp .eq 11, 3) := by decide +kernel
theorem d_X12_laysRings_38 : decode cX12_laysRings 38 = .ok (.aload_n 0, 1) := by decide +kernel
theorem d_X12_laysRings_39 : decode cX12_laysRings 39 = .ok (.iload_n 1, 1) := by decide +kernel
theorem d_X12_laysRings_40 : decode cX12_laysRings 40 = .ok (.invokevirtual 200, 3) := by decide +kernel
theorem d_X12_laysRings_43 : decode cX12_laysRings 43 = .ok (.ifCond .eq 7, 3) := by decide +kernel
theorem d_X12_laysRings_46 : decode cX12_laysRings 46 = .ok (.iconst 0, 1) := by decide +kernel
theorem d_X12_laysRings_47 : decode cX12_laysRings 47 = .ok (.goto 13, 3) := by decide +kernel
theorem d_X12_laysRings_50 : decode cX12_laysRings 50 = .ok (.aload_n 0, 1) := by decide +kernel
theorem d_X12_laysRings_51 : decode cX12_laysRings 51 = .ok (.iload_n 1, 1) := by decide +kernel
theorem d_X12_laysRings_52 : decode cX12_laysRings 52 = .ok (.aload_n 0, 1) := by decide +kernel
theorem d_X12_laysRings_53 : decode cX12_laysRings 53 = .ok (.iload_n 2, 1) := by decide +kernel
theorem d_X12_laysRings_54 : decode cX12_laysRings 54 = .ok (.invokevirtual 227, 3) := by decide +kernel
theorem d_X12_laysRings_57 : decode cX12_laysRings 57 = .ok (.invokevirtual 230, 3) := by decide +kernel
theorem d_X12_laysRings_60 : decode cX12_laysRings 60 = .ok (.iastore, 1) := by decide +kernel
theorem d_X12_laysRings_61 : decode cX12_laysRings 61 = .ok (.iinc 2 1, 3) := by decide +kernel
theorem d_X12_laysRings_64 : decode cX12_laysRings 64 = .ok (.goto (-52), 3) := by decide +kernel
theorem d_X12_laysRings_67 : decode cX12_laysRings 67 = .ok (.iinc 1 1, 3) := by decide +kernel
theorem d_X12_laysRings_70 : decode cX12_laysRings 70 = .ok (.goto (-68), 3) := by decide +kernel
theorem d_X12_laysRings_73 : decode cX12_laysRings 73 = .ok (.return_, 1) := by decide +kernel
theorem d_X12_freeForest_0 : decode cX12_freeForest 0 = .ok (.iconst 0, 1) := by decide +kernel
theorem d_X12_freeForest_1 : decode cX12_freeForest 1 = .ok (.istore_n 2, 1) := by decide +kernel
theorem d_X12_freeForest_2 : decode cX12_freeForest 2 = .ok (.iload_n 2, 1) := by decide +kernel
theorem d_X12_freeForest_3 : decode cX12_freeForest 3 = .ok (.aload_n 0, 1) := by decide +kernel
theorem d_X12_freeForest_4 : decode cX12_freeForest 4 = .ok (.invokevirtual 197, 3) := by decide +kernel
theorem d_X12_freeForest_7 : decode cX12_freeForest 7 = .ok (.if_icmp .ge 33, 3) := by decide +kernel
theorem d_X12_freeForest_10 : decode cX12_freeForest 10 = .ok (.aload_n 0, 1) := by decide +kernel
theorem d_X12_freeForest_11 : decode cX12_freeForest 11 = .ok (.iload_n 1, 1) := by decide +kernel
theorem d_X12_freeForest_12 : decode cX12_freeForest 12 = .ok (.invokevirtual 203, 3) := by decide +kernel
theorem d_X12_freeForest_15 : decode cX12_freeForest 15 = .ok (.iload_n 2, 1) := by decide +kernel
theorem d_X12_freeForest_16 : decode cX12_freeForest 16 = .ok (.if_icmp .eq 18, 3) := by decide +kernel
theorem d_X12_freeForest_19 : decode cX12_freeForest 19 = .ok (.aload_n 0, 1) := by decide +kernel
theorem d_X12_freeForest_20 : decode cX12_freeForest 20 = .ok (.getfield 128, 3) := by decide +kernel
theorem d_X12_freeForest_23 : decode cX12_freeForest 23 = .ok (.iconst 5, 1) := by decide +kernel
theorem d_X12_freeForest_24 : decode cX12_freeForest 24 = .ok (.iload_n 1, 1) := by decide +kernel
theorem d_X12_freeForest_25 : decode cX12_freeForest 25 = .ok (.imul, 1) := by decide +kernel
theorem d_X12_freeForest_26 : decode cX12_freeForest 26 = .ok (.iload_n 2, 1) := by decide +kernel
theorem d_X12_freeForest_27 : decode cX12_freeForest 27 = .ok (.iadd, 1) := by decide +kernel
theorem d_X12_freeForest_28 : decode cX12_freeForest 28 = .ok (.iaload, 1) := by decide +kernel
theorem d_X12_freeForest_29 : decode cX12_freeForest 29 = .ok (.ifCond .ne 5, 3) := by decide +kernel
theorem d_X12_freeForest_32 : decode cX12_freeForest 32 = .ok (.iload_n 2, 1) := by decide +kernel
theorem d_X12_freeForest_33 : decode cX12_freeForest 33 = .ok (.ireturn, 1) := by decide +kernel
theorem d_X12_freeForest_34 : decode cX12_freeForest 34 = .ok (.iinc 2 1, 3) := by decide +kernel
theorem d_X12_freeForest_37 : decode cX12_freeForest 37 = .ok (.goto (-35), 3) := by decide +kernel
theorem d_X12_freeForest_40 : decode cX12_freeForest 40 = .ok (.iconst (-1), 1) := by decide +kernel
theorem d_X12_freeForest_41 : decode cX12_freeForest 41 = .ok (.ireturn, 1) := by decide +kernel
theorem d_X12_nextTo_0 : decode cX12_nextTo 0 = .ok (.iconst 0, 1) := by decide +kernel
theorem d_X12_nextTo_1 : decode cX12_nextTo 1 = .ok (.istore_n 2, 1) := by decide +kernel
theorem d_X12_nextTo_2 : decode cX12_nextTo 2 = .ok (.iconst 0, 1) := by decide +kernel
theorem d_X12_nextTo_3 : decode cX12_nextTo 3 = .ok (.istore_n 3, 1) := by decide +kernel
theorem d_X12_nextTo_4 : decode cX12_nextTo 4 = .ok (.iload_n 3, 1) := by decide +kernel
theorem d_X12_nextTo_5 : decode cX12_nextTo 5 = .ok (.aload_n 0, 1) := by decide +kernel
theorem d_X12_nextTo_6 : decode cX12_nextTo 6 = .ok (.invokevirtual 197, 3) := by decide +kernel
theorem d_X12_nextTo_9 : decode cX12_nextTo 9 = .ok (.if_icmp .ge 22, 3) := by decide +kernel
theorem d_X12_nextTo_12 : decode cX12_nextTo 12 = .ok (.iload_n 2, 1) := by decide +kernel
theorem d_X12_nextTo_13 : decode cX12_nextTo 13 = .ok (.aload_n 0, 1) := by decide +kernel
theorem d_X12_nextTo_14 : decode cX12_nextTo 14 = .ok (.getfield 128, 3) := by decide +kernel
theorem d_X12_nextTo_17 : decode cX12_nextTo 17 = .ok (.iconst 5, 1) := by decide +kernel
theorem d_X12_nextTo_18 : decode cX12_nextTo 18 = .ok (.iload_n 1, 1) := by decide +kernel
theorem d_X12_nextTo_19 : decode cX12_nextTo 19 = .ok (.imul, 1) := by decide +kernel
theorem d_X12_nextTo_20 : decode cX12_nextTo 20 = .ok (.iload_n 3, 1) := by decide +kernel
theorem d_X12_nextTo_21 : decode cX12_nextTo 21 = .ok (.iadd, 1) := by decide +kernel
theorem d_X12_nextTo_22 : decode cX12_nextTo 22 = .ok (.iaload, 1) := by decide +kernel
theorem d_X12_nextTo_23 : decode cX12_nextTo 23 = .ok (.ior, 1) := by decide +kernel
theorem d_X12_nextTo_24 : decode cX12_nextTo 24 = .ok (.istore_n 2, 1) := by decide +kernel
