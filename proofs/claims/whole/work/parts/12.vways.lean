-- needs: 06.world 07.fun 08.links5 09.dec1 09.dec2 09.dec3 09.dec4 10.vsmall
set_option maxHeartbeats 4000000 in
theorem tCh_goAlong {l : Launch} {g : ZG} {X : ZB} {N : ZB} {T : ZB} {Rd : ZB} {Fr : ZB} {Ac : ZA} {Ch : ZB} {PS : ZB} {Ly : ZB} {Pa : ZQ} {OT : ZB} {Ea : ZB} {Ga : ZB} {Im0 : ZO} {Im1 : ZO} {a1 : Int} {a2 : Int} {r : Int × ZB} (h : fCh_goAlong N Ch a1 a2 = some r) : zMi l yX1_goAlong cX1_goAlong 8 (some .int) zr0 g [.ref (g.2.2 62), .int (zI a1), .int (zI a2)] (wX g X N T Rd Fr Ac Ch PS Ly Pa OT Ea Ga Im0 Im1) (wX g X N T Rd Fr Ac r.2 PS Ly Pa OT Ea Ga Im0 Im1) (zI r.1) := by
  unfold fCh_goAlong at h
  refine zMi_q (own := RX1) rfl (by decide +kernel) (Nat.le_of_ble_eq_true rfl) (lv := [(0, .ref (g.2.2 62)), (1, .int (zI a1)), (2, .int (zI a2))]) rfl ⟨rfl, rfl⟩ ?_
  intro p e s m args below meth c A Q hQ cx
  refine z_aload_n cx d_X1_goAlong_0 1 rfl rfl 0 rfl ?_
  refine z_get cx d_X1_goAlong_1 4 rfl e_Ch rfl zX1 0 (by decide) q_365 rfl rfl ?_
  refine z_get cx d_X1_goAlong_4 7 rfl e_N rfl zX5 0 (by decide) q_151 rfl rfl ?_
  refine z_iload_n cx d_X1_goAlong_7 8 rfl rfl 1 rfl ?_
  refine y_ialdx cx d_X1_goAlong_8 9 rfl e_N_first (by decide) h (fun x_1 h => ?_)
  refine y_istore_n cx d_X1_goAlong_9 10 rfl rfl (by decide) (lv' := [(3, .int (zI x_1)), (0, .ref (g.2.2 62)), (1, .int (zI a1)), (2, .int (zI a2))]) rfl ?_
  refine z_aload_n cx d_X1_goAlong_10 11 rfl rfl 1 rfl ?_
  refine z_get cx d_X1_goAlong_11 14 rfl e_Ch rfl zX1 0 (by decide) q_365 rfl rfl ?_
  refine z_get cx d_X1_goAlong_14 17 rfl e_N rfl zX5 1 (by decide) q_157 rfl rfl ?_
  refine z_iload_n cx d_X1_goAlong_17 18 rfl rfl 2 rfl ?_
  refine y_ialdx cx d_X1_goAlong_18 19 rfl e_N_second (by decide) h (fun x_2 h => ?_)
  refine y_istore cx d_X1_goAlong_19 21 rfl (by decide) (lv' := [(4, .int (zI x_2)), (3, .int (zI x_1)), (0, .ref (g.2.2 62)), (1, .int (zI a1)), (2, .int (zI a2))]) rfl ?_
  refine z_iload_n cx d_X1_goAlong_21 22 rfl rfl 4 rfl ?_
  refine z_iload_n cx d_X1_goAlong_22 23 rfl rfl 1 rfl ?_
  refine y_ishr cx d_X1_goAlong_23 24 rfl ?_
  refine y_iconst cx d_X1_goAlong_24 25 rfl ?_
  refine y_iand cx d_X1_goAlong_25 26 rfl ?_
  refine y_istore_b cx d_X1_goAlong_26 28 rfl (by decide) (fun y => [(5, .int (zI y)), (4, .int (zI x_2)), (3, .int (zI x_1)), (0, .ref (g.2.2 62)), (1, .int (zI a1)), (2, .int (zI a2))]) (fun y => rfl) h (fun v5_3 h => ?_)
  refine z_iload cx d_X1_goAlong_28 30 rfl 0 rfl ?_
  refine z_iload_n cx d_X1_goAlong_30 31 rfl rfl 5 rfl ?_
  refine z_iload cx d_X1_goAlong_31 33 rfl 1 rfl ?_
  refine y_ishr cx d_X1_goAlong_33 34 rfl ?_
  refine y_iconst cx d_X1_goAlong_34 35 rfl ?_
  refine y_iand cx d_X1_goAlong_35 36 rfl ?_
  refine y_icmp_ne cx d_X1_goAlong_36 39 rfl 41 (by decide) rfl (nm_zand _ _) h (fun h => ?_) (fun h => ?_)
  · refine z_iload cx d_X1_goAlong_41 43 rfl 0 rfl ?_
    refine y_iconst cx d_X1_goAlong_43 44 rfl ?_
    refine kf1_f (P := fun (w0_4 : Int) => V p l e zr0 s m args below meth c A s.heap g 8 Q (wX g X N T Rd Fr Ac Ch PS Ly Pa OT Ea Ga Im0 Im1) 0 0 [(0, .ref (g.2.2 62)), (1, .int (zI a1)), (3, .int (zI x_1)), (4, .int (zI x_2)), (5, .int (zI v5_3))] 53 [.int (zI w0_4)]) h (fun w0_4 h => ?_) (fun k_5 hk_5 h => ?_)
    · refine y_istore cx d_X1_goAlong_53 55 rfl (by decide) (lv' := [(6, .int (zI w0_4)), (0, .ref (g.2.2 62)), (1, .int (zI a1)), (3, .int (zI x_1)), (4, .int (zI x_2)), (5, .int (zI v5_3))]) rfl ?_
      refine z_iload cx d_X1_goAlong_55 57 rfl 5 rfl ?_
      refine y_iconst cx d_X1_goAlong_57 58 rfl ?_
      refine kf1_f (P := fun (w0_6 : Int) => V p l e zr0 s m args below meth c A s.heap g 8 Q (wX g X N T Rd Fr Ac Ch PS Ly Pa OT Ea Ga Im0 Im1) 0 0 [(0, .ref (g.2.2 62)), (1, .int (zI a1)), (6, .int (zI w0_4))] 67 [.int (zI w0_6)]) h (fun w0_6 h => ?_) (fun k_7 hk_7 h => ?_)
      · refine y_istore cx d_X1_goAlong_67 69 rfl (by decide) (lv' := [(7, .int (zI w0_6)), (0, .ref (g.2.2 62)), (1, .int (zI a1)), (6, .int (zI w0_4))]) rfl ?_
        refine z_aload_n cx d_X1_goAlong_69 70 rfl rfl 1 rfl ?_
        refine z_get cx d_X1_goAlong_70 73 rfl e_Ch rfl zX1 1 (by decide) q_366 rfl rfl ?_
        refine z_iload cx d_X1_goAlong_73 75 rfl 0 rfl ?_
        refine z_aload_n cx d_X1_goAlong_75 76 rfl rfl 1 rfl ?_
        refine z_get cx d_X1_goAlong_76 79 rfl e_Ch rfl zX1 1 (by decide) q_366 rfl rfl ?_
        refine z_iload cx d_X1_goAlong_79 81 rfl 3 rfl ?_
        refine y_ialdx cx d_X1_goAlong_81 82 rfl e_Ch_wayTo (by decide) h (fun x_8 h => ?_)
        refine y_iconst cx d_X1_goAlong_82 83 rfl ?_
        refine z_iload_n cx d_X1_goAlong_83 84 rfl rfl 2 rfl ?_
        refine y_ishl cx d_X1_goAlong_84 85 rfl ?_
        refine y_ior cx d_X1_goAlong_85 86 rfl ?_
        refine y_iast cx d_X1_goAlong_86 87 rfl e_Ch_wayTo (by decide) h (fun _ h9 => s_Ch_wayTo h9) (fun Ch_9 h => ?_)
        refine y_iconst cx d_X1_goAlong_87 88 rfl ?_
        refine z_iload cx d_X1_goAlong_88 90 rfl 0 rfl ?_
        refine y_ishl cx d_X1_goAlong_90 91 rfl ?_
        subst hQ
        obtain rfl := Option.some.inj h
        exact z_iret cx d_X1_goAlong_91 rfl rfl
      refine y_icmp_ne cx d_X1_goAlong_58 61 rfl 66 (by decide) rfl (nm_eq (x := 1) (by decide) (by decide)) h (fun h => ?_) (fun h => ?_)
      · refine z_iload_n cx d_X1_goAlong_66 67 rfl rfl 3 rfl ?_
        refine z_sub [1, 2, 0] rfl ?_
        exact hk_7 _ h
      · refine z_iload cx d_X1_goAlong_61 63 rfl 4 rfl ?_
        refine z_goto cx d_X1_goAlong_63 67 (by decide) ?_
        refine z_sub [1, 2, 0] rfl ?_
        exact hk_7 _ h
    refine y_icmp_ne cx d_X1_goAlong_44 47 rfl 51 (by decide) rfl (nm_eq (x := 1) (by decide) (by decide)) h (fun h => ?_) (fun h => ?_)
    · refine z_iload cx d_X1_goAlong_51 53 rfl 1 rfl ?_
      refine z_sub [3, 4, 2, 1, 0] rfl ?_
      exact hk_5 _ h
    · refine z_iload_n cx d_X1_goAlong_47 48 rfl rfl 2 rfl ?_
      refine z_goto cx d_X1_goAlong_48 53 (by decide) ?_
      refine z_sub [3, 4, 2, 1, 0] rfl ?_
      exact hk_5 _ h
  · refine y_iconst cx d_X1_goAlong_39 40 rfl ?_
    subst hQ
    obtain rfl := Option.some.inj h
    exact z_iret cx d_X1_goAlong_40 rfl rfl
def zrCh_ringOf : Room := { frames := 1, cells := 0, slots := 0, locals := 27 }
set_option maxHeartbeats 4000000 in
theorem tCh_ringOf {l : Launch} {g : ZG} {X : ZB} {N : ZB} {T : ZB} {Rd : ZB} {Fr : ZB} {Ac : ZA} {Ch : ZB} {PS : ZB} {Ly : ZB} {Pa : ZQ} {OT : ZB} {Ea : ZB} {Ga : ZB} {Im0 : ZO} {Im1 : ZO} {a1 : Int} {a2 : Int} {r : Int × ZB} (h : fCh_ringOf N Ch a1 a2 = some r) : zMi l yX1_ringOf cX1_ringOf 8 (some .int) zrCh_ringOf g [.ref (g.2.2 62), .int (zI a1), .int (zI a2)] (wX g X N T Rd Fr Ac Ch PS Ly Pa OT Ea Ga Im0 Im1) (wX g X N T Rd Fr Ac r.2 PS Ly Pa OT Ea Ga Im0 Im1) (zI r.1) := by
  unfold fCh_ringOf at h
  refine zMi_q (own := RX1) rfl (by decide +kernel) (Nat.le_of_ble_eq_true rfl) (lv := [(0, .ref (g.2.2 62)), (1, .int (zI a1)), (2, .int (zI a2))]) rfl ⟨rfl, rfl⟩ ?_
  intro p e s m args below meth c A Q hQ cx
  refine z_aload_n cx d_X1_ringOf_0 1 rfl rfl 0 rfl ?_
  refine z_get cx d_X1_ringOf_1 4 rfl e_Ch rfl zX1 0 (by decide) q_365 rfl rfl ?_
  refine z_get cx d_X1_ringOf_4 7 rfl e_N rfl zX5 1 (by decide) q_157 rfl rfl ?_
  refine z_iload_n cx d_X1_ringOf_7 8 rfl rfl 1 rfl ?_
  refine y_ialdx cx d_X1_ringOf_8 9 rfl e_N_second (by decide) h (fun x_1 h => ?_)
  refine y_istore_n cx d_X1_ringOf_9 10 rfl rfl (by decide) (lv' := [(3, .int (zI x_1)), (0, .ref (g.2.2 62)), (1, .int (zI a1)), (2, .int (zI a2))]) rfl ?_
  refine y_iconst cx d_X1_ringOf_10 11 rfl ?_
  refine z_aload_n cx d_X1_ringOf_11 12 rfl rfl 1 rfl ?_
  refine z_get cx d_X1_ringOf_12 15 rfl e_Ch rfl zX1 0 (by decide) q_365 rfl rfl ?_
  refine z_get cx d_X1_ringOf_15 18 rfl e_N rfl zX5 0 (by decide) q_151 rfl rfl ?_
  refine z_iload_n cx d_X1_ringOf_18 19 rfl rfl 2 rfl ?_
  refine y_ialdx cx d_X1_ringOf_19 20 rfl e_N_first (by decide) h (fun x_2 h => ?_)
  refine y_ishl cx d_X1_ringOf_20 21 rfl ?_
  refine y_istore_b cx d_X1_ringOf_21 23 rfl (by decide) (fun y => [(4, .int (zI y)), (3, .int (zI x_1)), (0, .ref (g.2.2 62)), (1, .int (zI a1)), (2, .int (zI a2))]) (fun y => rfl) h (fun v4_3 h => ?_)
  refine z_aload_n cx d_X1_ringOf_23 24 rfl rfl 2 rfl ?_
  refine z_get cx d_X1_ringOf_24 27 rfl e_Ch rfl zX1 1 (by decide) q_366 rfl rfl ?_
  refine z_aload_n cx d_X1_ringOf_27 28 rfl rfl 2 rfl ?_
  refine z_get cx d_X1_ringOf_28 31 rfl e_Ch rfl zX1 0 (by decide) q_365 rfl rfl ?_
  refine z_get cx d_X1_ringOf_31 34 rfl e_N rfl zX5 0 (by decide) q_151 rfl rfl ?_
  refine z_iload_n cx d_X1_ringOf_34 35 rfl rfl 3 rfl ?_
  refine y_ialdx cx d_X1_ringOf_35 36 rfl e_N_first (by decide) h (fun x_4 h => ?_)
  refine y_iconst cx d_X1_ringOf_36 37 rfl ?_
  refine y_iast cx d_X1_ringOf_37 38 rfl e_Ch_wayTo (by decide) h (fun _ h9 => s_Ch_wayTo h9) (fun Ch_5 h => ?_)
  refine y_iconst cx d_X1_ringOf_38 39 rfl ?_
  refine y_istore cx d_X1_ringOf_39 41 rfl (by decide) (lv' := [(5, .int (zI 0)), (4, .int (zI v4_3)), (3, .int (zI x_1)), (0, .ref (g.2.2 62)), (1, .int (zI a1)), (2, .int (zI a2))]) rfl ?_
  refine z_sub [3, 5, 2, 1, 0] rfl ?_
  refine lop3_f (P := fun (v4_6 : Int) (v5_7 : Int) (Ch_8 : ZB) => V p l e zrCh_ringOf s m args below meth c A s.heap g 8 Q (wX g X N T Rd Fr Ac Ch_8 PS Ly Pa OT Ea Ga Im0 Im1) 0 0 [(0, .ref (g.2.2 62)), (2, .int (zI a2)), (3, .int (zI x_1)), (4, .int (zI v4_6)), (5, .int (zI v5_7))] 41 []) (fun rec_9 hrec_9 v4_6 v5_7 Ch_8 h => ?_) _ _ _ _ h
  refine z_iload cx d_X1_ringOf_41 43 rfl 4 rfl ?_
  refine z_aload_n cx d_X1_ringOf_43 44 rfl rfl 0 rfl ?_
  refine z_get cx d_X1_ringOf_44 47 rfl e_Ch rfl zX1 0 (by decide) q_365 rfl rfl ?_
  refine z_get cx d_X1_ringOf_47 50 rfl e_N rfl zX5 4 (by decide) q_171 rfl rfl ?_
  refine kf2_f (P := fun (v4_10 : Int) (Ch_11 : ZB) => V p l e zrCh_ringOf s m args below meth c A s.heap g 8 Q (wX g X N T Rd Fr Ac Ch_11 PS Ly Pa OT Ea Ga Im0 Im1) 0 0 [(0, .ref (g.2.2 62)), (3, .int (zI x_1)), (4, .int (zI v4_10))] 130 []) h (fun v4_10 Ch_11 h => ?_) (fun k_12 hk_12 h => ?_)
  · refine z_iload cx d_X1_ringOf_130 132 rfl 2 rfl ?_
    refine z_iload_n cx d_X1_ringOf_132 133 rfl rfl 1 rfl ?_
    refine y_ishr cx d_X1_ringOf_133 134 rfl ?_
    refine y_iconst cx d_X1_ringOf_134 135 rfl ?_
    refine y_iand cx d_X1_ringOf_135 136 rfl ?_
    refine kf1_f (P := fun (w0_13 : Int) => V p l e zrCh_ringOf s m args below meth c A s.heap g 8 Q (wX g X N T Rd Fr Ac Ch_11 PS Ly Pa OT Ea Ga Im0 Im1) 0 0 [] 149 [.int (zI w0_13)]) h (fun w0_13 h => ?_) (fun k_14 hk_14 h => ?_)
    · subst hQ
      obtain rfl := Option.some.inj h
      exact z_iret cx d_X1_ringOf_149 rfl rfl
    refine y_if_eq cx d_X1_ringOf_136 139 rfl 148 (by decide) (nm_zand _ _) h (fun h => ?_) (fun h => ?_)
    · refine y_iconst cx d_X1_ringOf_148 149 rfl ?_
      refine z_sub [] rfl ?_
      exact hk_14 _ h
    · refine z_aload_n cx d_X1_ringOf_139 140 rfl rfl 0 rfl ?_
      refine z_get cx d_X1_ringOf_140 143 rfl e_Ch rfl zX1 1 (by decide) q_366 rfl rfl ?_
      refine z_iload_n cx d_X1_ringOf_143 144 rfl rfl 1 rfl ?_
      refine y_ialdx cx d_X1_ringOf_144 145 rfl e_Ch_wayTo (by decide) h (fun x_15 h => ?_)
      refine z_goto cx d_X1_ringOf_145 149 (by decide) ?_
      refine z_sub [] rfl ?_
      exact hk_14 _ h
  refine y_icmp_ge cx d_X1_ringOf_50 53 rfl 130 (by decide) rfl rfl h (fun h => ?_) (fun h => ?_)
  · refine z_sub [0, 2, 3] rfl ?_
    exact hk_12 _ _ h
  · refine z_iload cx d_X1_ringOf_53 55 rfl 3 rfl ?_
    refine y_istore cx d_X1_ringOf_55 57 rfl (by decide) (lv' := [(6, .int (zI v4_6)), (0, .ref (g.2.2 62)), (2, .int (zI a2)), (3, .int (zI x_1)), (4, .int (zI v4_6)), (5, .int (zI v5_7))]) rfl ?_
    refine y_iconst cx d_X1_ringOf_57 58 rfl ?_
    refine y_istore cx d_X1_ringOf_58 60 rfl (by decide) (lv' := [(7, .int (zI 0)), (6, .int (zI v4_6)), (0, .ref (g.2.2 62)), (2, .int (zI a2)), (3, .int (zI x_1)), (4, .int (zI v4_6)), (5, .int (zI v5_7))]) rfl ?_
    refine z_sub [2, 3, 4, 5, 6, 1, 0] rfl ?_
    refine lop3_f (P := fun (v4_16 : Int) (v7_17 : Int) (Ch_18 : ZB) => V p l e zrCh_ringOf s m args below meth c A s.heap g 8 Q (wX g X N T Rd Fr Ac Ch_18 PS Ly Pa OT Ea Ga Im0 Im1) 0 0 [(0, .ref (g.2.2 62)), (2, .int (zI a2)), (3, .int (zI x_1)), (4, .int (zI v4_16)), (5, .int (zI v5_7)), (6, .int (zI v4_6)), (7, .int (zI v7_17))] 60 []) (fun rec_19 hrec_19 v4_16 v7_17 Ch_18 h => ?_) _ _ _ _ h
    refine z_iload cx d_X1_ringOf_60 62 rfl 6 rfl ?_
    refine z_aload_n cx d_X1_ringOf_62 63 rfl rfl 0 rfl ?_
    refine z_get cx d_X1_ringOf_63 66 rfl e_Ch rfl zX1 0 (by decide) q_365 rfl rfl ?_
    refine z_get cx d_X1_ringOf_66 69 rfl e_N rfl zX5 5 (by decide) q_180 rfl rfl ?_
    refine y_icmp_ge cx d_X1_ringOf_69 72 rfl 105 (by decide) rfl rfl h (fun h => ?_) (fun h => ?_)
    · refine z_iload cx d_X1_ringOf_105 107 rfl 3 rfl ?_
      refine z_iload cx d_X1_ringOf_107 109 rfl 5 rfl ?_
      refine y_icmp_eq cx d_X1_ringOf_109 112 rfl 130 (by decide) rfl rfl h (fun h => ?_) (fun h => ?_)
      · refine z_sub [0, 2, 3] rfl ?_
        exact hk_12 _ _ h
      · refine z_iload cx d_X1_ringOf_112 114 rfl 3 rfl ?_
        refine z_iload_n cx d_X1_ringOf_114 115 rfl rfl 2 rfl ?_
        refine y_ishr cx d_X1_ringOf_115 116 rfl ?_
        refine y_iconst cx d_X1_ringOf_116 117 rfl ?_
        refine y_iand cx d_X1_ringOf_117 118 rfl ?_
        refine y_if_eq cx d_X1_ringOf_118 121 rfl 124 (by decide) (nm_zand _ _) h (fun h => ?_) (fun h => ?_)
        · refine y_iinc cx 4 d_X1_ringOf_124 127 rfl rfl (by decide) (lv' := [(5, .int (zI (v5_7 + 1))), (0, .ref (g.2.2 62)), (2, .int (zI a2)), (3, .int (zI x_1)), (4, .int (zI v4_16)), (6, .int (zI v4_6)), (7, .int (zI v7_17))]) rfl ?_
          refine z_goto cx d_X1_ringOf_127 41 (by decide) ?_
          refine z_sub [1, 2, 3, 4, 0] rfl ?_
          exact hrec_9 _ _ _ h
        · refine z_goto cx d_X1_ringOf_121 130 (by decide) ?_
          refine z_sub [0, 2, 3] rfl ?_
          exact hk_12 _ _ h
    · refine z_aload_n cx d_X1_ringOf_72 73 rfl rfl 0 rfl ?_
      refine z_get cx d_X1_ringOf_73 76 rfl e_Ch rfl zX1 0 (by decide) q_365 rfl rfl ?_
      refine z_get cx d_X1_ringOf_76 79 rfl e_N rfl zX5 3 (by decide) q_166 rfl rfl ?_
      refine z_iload cx d_X1_ringOf_79 81 rfl 6 rfl ?_
      refine y_ialdx cx d_X1_ringOf_81 82 rfl e_N_home (by decide) h (fun x_20 h => ?_)
      refine z_iload_n cx d_X1_ringOf_82 83 rfl rfl 1 rfl ?_
      refine kf2_f (P := fun (v4_21 : Int) (Ch_22 : ZB) => V p l e zrCh_ringOf s m args below meth c A s.heap g 8 Q (wX g X N T Rd Fr Ac Ch_22 PS Ly Pa OT Ea Ga Im0 Im1) 0 0 [(0, .ref (g.2.2 62)), (2, .int (zI a2)), (3, .int (zI x_1)), (4, .int (zI v4_21)), (5, .int (zI v5_7)), (6, .int (zI v4_6)), (7, .int (zI v7_17))] 99 []) h (fun v4_21 Ch_22 h => ?_) (fun k_23 hk_23 h => ?_)
      · refine y_iinc cx 6 d_X1_ringOf_99 102 rfl rfl (by decide) (lv' := [(7, .int (zI (v7_17 + 1))), (0, .ref (g.2.2 62)), (2, .int (zI a2)), (3, .int (zI x_1)), (4, .int (zI v4_21)), (5, .int (zI v5_7)), (6, .int (zI v4_6))]) rfl ?_
        refine z_goto cx d_X1_ringOf_102 60 (by decide) ?_
        refine z_sub [1, 2, 3, 4, 5, 6, 0] rfl ?_
        exact hrec_19 _ _ _ h
      refine y_icmp_ne cx d_X1_ringOf_83 86 rfl 99 (by decide) rfl rfl h (fun h => ?_) (fun h => ?_)
      · exact hk_23 _ _ h
      · refine z_iload cx d_X1_ringOf_86 88 rfl 3 rfl ?_
        refine z_aload_n cx d_X1_ringOf_88 89 rfl rfl 0 rfl ?_
        refine z_iload cx d_X1_ringOf_89 91 rfl 6 rfl ?_
        refine z_iload cx d_X1_ringOf_91 93 rfl 3 rfl ?_
        refine y_callV_i (As := [.int (zI v7_17), .int (zI v4_16)]) (rest := [.int (zI v4_16)]) (W := fun u_24 => wX g X N T Rd Fr Ac u_24.2 PS Ly Pa OT Ea Ga Im0 Im1) (rf := fun u_24 => zI u_24.1) (rm := zr0) cx (fun _ hq => tCh_goAlong hq) d_X1_ringOf_93 96 rfl kk_X1_goAlong q_788 q_790 q_13 rfl e_Ch rfl ⟨rfl, rfl⟩ ⟨Nat.le_of_ble_eq_true rfl, Nat.le_of_ble_eq_true rfl⟩ rfl rfl (Nat.le_of_ble_eq_true rfl) ⟨Nat.zero_le _, Nat.zero_le _⟩ h (fun u_24 h => ?_)
        refine y_ior cx d_X1_ringOf_96 97 rfl ?_
        refine y_istore_b cx d_X1_ringOf_97 99 rfl (by decide) (fun y => [(4, .int (zI y)), (0, .ref (g.2.2 62)), (2, .int (zI a2)), (3, .int (zI x_1)), (5, .int (zI v5_7)), (6, .int (zI v4_6)), (7, .int (zI v7_17))]) (fun y => rfl) h (fun v4_25 h => ?_)
        refine z_sub [1, 2, 3, 0, 4, 5, 6] rfl ?_
        exact hk_23 _ _ h
def zrCh_freeForest : Room := { frames := 2, cells := 0, slots := 0, locals := 54 }
set_option maxHeartbeats 4000000 in
theorem tCh_freeForest {l : Launch} {g : ZG} {X : ZB} {N : ZB} {T : ZB} {Rd : ZB} {Fr : ZB} {Ac : ZA} {Ch : ZB} {PS : ZB} {Ly : ZB} {Pa : ZQ} {OT : ZB} {Ea : ZB} {Ga : ZB} {Im0 : ZO} {Im1 : ZO} {a1 : Int} {r : Int × ZB} (h : fCh_freeForest N Ch a1 = some r) : zMi l yX1_freeForest cX1_freeForest 3 (some .int) zrCh_freeForest g [.ref (g.2.2 62), .int (zI a1)] (wX g X N T Rd Fr Ac Ch PS Ly Pa OT Ea Ga Im0 Im1) (wX g X N T Rd Fr Ac r.2 PS Ly Pa OT Ea Ga Im0 Im1) (zI r.1) := by
  unfold fCh_freeForest at h
  refine zMi_q (own := RX1) rfl (by decide +kernel) (Nat.le_of_ble_eq_true rfl) (lv := [(0, .ref (g.2.2 62)), (1, .int (zI a1))]) rfl ⟨rfl, rfl⟩ ?_
  intro p e s m args below meth c A Q hQ cx
  refine y_iconst cx d_X1_freeForest_0 1 rfl ?_
  refine y_istore_n cx d_X1_freeForest_1 2 rfl rfl (by decide) (lv' := [(2, .int (zI 0)), (0, .ref (g.2.2 62)), (1, .int (zI a1))]) rfl ?_
  refine z_sub [1, 2, 0] rfl ?_
  refine lop2_f (P := fun (v2_1 : Int) (Ch_2 : ZB) => V p l e zrCh_freeForest s m args below meth c A s.heap g 3 Q (wX g X N T Rd Fr Ac Ch_2 PS Ly Pa OT Ea Ga Im0 Im1) 0 0 [(0, .ref (g.2.2 62)), (1, .int (zI a1)), (2, .int (zI v2_1))] 2 []) (fun rec_3 hrec_3 v2_1 Ch_2 h => ?_) _ _ _ h
  refine z_iload_n cx d_X1_freeForest_2 3 rfl rfl 2 rfl ?_
  refine z_aload_n cx d_X1_freeForest_3 4 rfl rfl 0 rfl ?_
  refine z_get cx d_X1_freeForest_4 7 rfl e_Ch rfl zX1 0 (by decide) q_365 rfl rfl ?_
  refine z_get cx d_X1_freeForest_7 10 rfl e_N rfl zX5 6 (by decide) q_190 rfl rfl ?_
  refine y_icmp_ge cx d_X1_freeForest_10 13 rfl 43 (by decide) rfl rfl h (fun h => ?_) (fun h => ?_)
  · refine y_iconst cx d_X1_freeForest_43 44 rfl ?_
    subst hQ
    obtain rfl := Option.some.inj h
    exact z_iret cx d_X1_freeForest_44 rfl rfl
  · refine z_aload_n cx d_X1_freeForest_13 14 rfl rfl 0 rfl ?_
    refine z_get cx d_X1_freeForest_14 17 rfl e_Ch rfl zX1 0 (by decide) q_365 rfl rfl ?_
    refine z_get cx d_X1_freeForest_17 20 rfl e_N rfl zX5 3 (by decide) q_166 rfl rfl ?_
    refine z_iload_n cx d_X1_freeForest_20 21 rfl rfl 1 rfl ?_
    refine y_ialdx cx d_X1_freeForest_21 22 rfl e_N_home (by decide) h (fun x_4 h => ?_)
    refine z_iload_n cx d_X1_freeForest_22 23 rfl rfl 2 rfl ?_
    refine kf1_f (P := fun (Ch_5 : ZB) => V p l e zrCh_freeForest s m args below meth c A s.heap g 3 Q (wX g X N T Rd Fr Ac Ch_5 PS Ly Pa OT Ea Ga Im0 Im1) 0 0 [(0, .ref (g.2.2 62)), (1, .int (zI a1)), (2, .int (zI v2_1))] 37 []) h (fun Ch_5 h => ?_) (fun k_6 hk_6 h => ?_)
    · refine y_iinc cx 2 d_X1_freeForest_37 40 rfl rfl (by decide) (lv' := [(2, .int (zI (v2_1 + 1))), (0, .ref (g.2.2 62)), (1, .int (zI a1))]) rfl ?_
      refine z_goto cx d_X1_freeForest_40 2 (by decide) ?_
      refine z_sub [1, 2, 0] rfl ?_
      exact hrec_3 _ _ h
    refine y_icmp_eq cx d_X1_freeForest_23 26 rfl 37 (by decide) rfl rfl h (fun h => ?_) (fun h => ?_)
    · exact hk_6 _ h
    · refine z_aload_n cx d_X1_freeForest_26 27 rfl rfl 0 rfl ?_
      refine z_iload_n cx d_X1_freeForest_27 28 rfl rfl 1 rfl ?_
      refine z_iload_n cx d_X1_freeForest_28 29 rfl rfl 2 rfl ?_
      refine y_callV_i (As := [.int (zI a1), .int (zI v2_1)]) (rest := []) (W := fun u_7 => wX g X N T Rd Fr Ac u_7.2 PS Ly Pa OT Ea Ga Im0 Im1) (rf := fun u_7 => zI u_7.1) (rm := zrCh_ringOf) cx (fun _ hq => tCh_ringOf hq) d_X1_freeForest_29 32 rfl kk_X1_ringOf q_812 q_785 q_786 rfl e_Ch rfl ⟨rfl, rfl⟩ ⟨Nat.le_of_ble_eq_true rfl, Nat.le_of_ble_eq_true rfl⟩ rfl rfl (Nat.le_of_ble_eq_true rfl) ⟨Nat.zero_le _, Nat.zero_le _⟩ h (fun u_7 h => ?_)
      refine y_if_ne cx d_X1_freeForest_32 35 rfl 37 (by decide) rfl h (fun h => ?_) (fun h => ?_)
      · exact hk_6 _ h
      · refine z_iload_n cx d_X1_freeForest_35 36 rfl rfl 2 rfl ?_
        subst hQ
        obtain rfl := Option.some.inj h
        exact z_iret cx d_X1_freeForest_36 rfl rfl
def zrCh_allRings : Room := { frames := 2, cells := 0, slots := 0, locals := 54 }
set_option maxHeartbeats 4000000 in
theorem tCh_allRings {l : Launch} {g : ZG} {X : ZB} {N : ZB} {T : ZB} {Rd : ZB} {Fr : ZB} {Ac : ZA} {Ch : ZB} {PS : ZB} {Ly : ZB} {Pa : ZQ} {OT : ZB} {Ea : ZB} {Ga : ZB} {Im0 : ZO} {Im1 : ZO} {a1 : Int} {r : Int × ZB} (h : fCh_allRings N Ch a1 = some r) : zMi l yX1_allRings cX1_allRings 4 (some .int) zrCh_allRings g [.ref (g.2.2 62), .int (zI a1)] (wX g X N T Rd Fr Ac Ch PS Ly Pa OT Ea Ga Im0 Im1) (wX g X N T Rd Fr Ac r.2 PS Ly Pa OT Ea Ga Im0 Im1) (zI r.1) := by
  unfold fCh_allRings at h
  refine zMi_q (own := RX1) rfl (by decide +kernel) (Nat.le_of_ble_eq_true rfl) (lv := [(0, .ref (g.2.2 62)), (1, .int (zI a1))]) rfl ⟨rfl, rfl⟩ ?_
  intro p e s m args below meth c A Q hQ cx
  refine y_iconst cx d_X1_allRings_0 1 rfl ?_
  refine y_istore_n cx d_X1_allRings_1 2 rfl rfl (by decide) (lv' := [(2, .int (zI 0)), (0, .ref (g.2.2 62)), (1, .int (zI a1))]) rfl ?_
  refine y_iconst cx d_X1_allRings_2 3 rfl ?_
  refine y_istore_n cx d_X1_allRings_3 4 rfl rfl (by decide) (lv' := [(3, .int (zI 0)), (2, .int (zI 0)), (0, .ref (g.2.2 62)), (1, .int (zI a1))]) rfl ?_
  refine z_sub [2, 3, 1, 0] rfl ?_
  refine lop3_f (P := fun (v2_1 : Int) (v3_2 : Int) (Ch_3 : ZB) => V p l e zrCh_allRings s m args below meth c A s.heap g 4 Q (wX g X N T Rd Fr Ac Ch_3 PS Ly Pa OT Ea Ga Im0 Im1) 0 0 [(0, .ref (g.2.2 62)), (1, .int (zI a1)), (2, .int (zI v2_1)), (3, .int (zI v3_2))] 4 []) (fun rec_4 hrec_4 v2_1 v3_2 Ch_3 h => ?_) _ _ _ _ h
  refine z_iload_n cx d_X1_allRings_4 5 rfl rfl 3 rfl ?_
  refine z_aload_n cx d_X1_allRings_5 6 rfl rfl 0 rfl ?_
  refine z_get cx d_X1_allRings_6 9 rfl e_Ch rfl zX1 0 (by decide) q_365 rfl rfl ?_
  refine z_get cx d_X1_allRings_9 12 rfl e_N rfl zX5 6 (by decide) q_190 rfl rfl ?_
  refine y_icmp_ge cx d_X1_allRings_12 15 rfl 43 (by decide) rfl rfl h (fun h => ?_) (fun h => ?_)
  · refine z_iload_n cx d_X1_allRings_43 44 rfl rfl 2 rfl ?_
    subst hQ
    obtain rfl := Option.some.inj h
    exact z_iret cx d_X1_allRings_44 rfl rfl
  · refine z_aload_n cx d_X1_allRings_15 16 rfl rfl 0 rfl ?_
    refine z_get cx d_X1_allRings_16 19 rfl e_Ch rfl zX1 0 (by decide) q_365 rfl rfl ?_
    refine z_get cx d_X1_allRings_19 22 rfl e_N rfl zX5 3 (by decide) q_166 rfl rfl ?_
    refine z_iload_n cx d_X1_allRings_22 23 rfl rfl 1 rfl ?_
    refine y_ialdx cx d_X1_allRings_23 24 rfl e_N_home (by decide) h (fun x_5 h => ?_)
    refine z_iload_n cx d_X1_allRings_24 25 rfl rfl 3 rfl ?_
    refine kf2_f (P := fun (v2_6 : Int) (Ch_7 : ZB) => V p l e zrCh_allRings s m args below meth c A s.heap g 4 Q (wX g X N T Rd Fr Ac Ch_7 PS Ly Pa OT Ea Ga Im0 Im1) 0 0 [(0, .ref (g.2.2 62)), (1, .int (zI a1)), (2, .int (zI v2_6)), (3, .int (zI v3_2))] 37 []) h (fun v2_6 Ch_7 h => ?_) (fun k_8 hk_8 h => ?_)
    · refine y_iinc cx 3 d_X1_allRings_37 40 rfl rfl (by decide) (lv' := [(3, .int (zI (v3_2 + 1))), (0, .ref (g.2.2 62)), (1, .int (zI a1)), (2, .int (zI v2_6))]) rfl ?_
      refine z_goto cx d_X1_allRings_40 4 (by decide) ?_
      refine z_sub [1, 2, 3, 0] rfl ?_
      exact hrec_4 _ _ _ h
    refine y_icmp_eq cx d_X1_allRings_25 28 rfl 37 (by decide) rfl rfl h (fun h => ?_) (fun h => ?_)
    · exact hk_8 _ _ h
    · refine z_iload_n cx d_X1_allRings_28 29 rfl rfl 2 rfl ?_
      refine z_aload_n cx d_X1_allRings_29 30 rfl rfl 0 rfl ?_
      refine z_iload_n cx d_X1_allRings_30 31 rfl rfl 1 rfl ?_
      refine z_iload_n cx d_X1_allRings_31 32 rfl rfl 3 rfl ?_
      refine y_callV_i (As := [.int (zI a1), .int (zI v3_2)]) (rest := [.int (zI v2_1)]) (W := fun u_9 => wX g X N T Rd Fr Ac u_9.2 PS Ly Pa OT Ea Ga Im0 Im1) (rf := fun u_9 => zI u_9.1) (rm := zrCh_ringOf) cx (fun _ hq => tCh_ringOf hq) d_X1_allRings_32 35 rfl kk_X1_ringOf q_812 q_785 q_786 rfl e_Ch rfl ⟨rfl, rfl⟩ ⟨Nat.le_of_ble_eq_true rfl, Nat.le_of_ble_eq_true rfl⟩ rfl rfl (Nat.le_of_ble_eq_true rfl) ⟨Nat.zero_le _, Nat.zero_le _⟩ h (fun u_9 h => ?_)
      refine y_ior cx d_X1_allRings_35 36 rfl ?_
      refine y_istore_n_b cx d_X1_allRings_36 37 rfl rfl (by decide) (fun y => [(2, .int (zI y)), (0, .ref (g.2.2 62)), (1, .int (zI a1)), (3, .int (zI v3_2))]) (fun y => rfl) h (fun v2_10 h => ?_)
      refine z_sub [1, 2, 0, 3] rfl ?_
      exact hk_8 _ _ h
set_option maxHeartbeats 4000000 in
theorem tCh_writeDown {l : Launch} {g : ZG} {X : ZB} {N : ZB} {T : ZB} {Rd : ZB} {Fr : ZB} {Ac : ZA} {Ch : ZB} {PS : ZB} {Ly : ZB} {Pa : ZQ} {OT : ZB} {Ea : ZB} {Ga : ZB} {Im0 : ZO} {Im1 : ZO} {a1 : Int} {a2 : Int} {r : ZB} (h : fCh_writeDown N Ch a1 a2 = some r) : zMv l yX1_writeDown cX1_writeDown 6 none zr0 g [.ref (g.2.2 62), .int (zI a1), .int (zI a2)] (wX g X N T Rd Fr Ac Ch PS Ly Pa OT Ea Ga Im0 Im1) (wX g X N T Rd Fr Ac r PS Ly Pa OT Ea Ga Im0 Im1) := by
  unfold fCh_writeDown at h
  refine zMv_q (own := RX1) rfl (by decide +kernel) (Nat.le_of_ble_eq_true rfl) (lv := [(0, .ref (g.2.2 62)), (1, .int (zI a1)), (2, .int (zI a2))]) rfl ⟨rfl, rfl⟩ ?_
  intro p e s m args below meth c A Q hQ cx
  refine z_iload_n cx d_X1_writeDown_0 1 rfl rfl 1 rfl ?_
  refine y_istore_n cx d_X1_writeDown_1 2 rfl rfl (by decide) (lv' := [(3, .int (zI a1)), (0, .ref (g.2.2 62)), (1, .int (zI a1)), (2, .int (zI a2))]) rfl ?_
  refine z_sub [1, 2, 3, 0] rfl ?_
  refine lop2_f (P := fun (v3_1 : Int) (Ch_2 : ZB) => V p l e zr0 s m args below meth c A s.heap g 6 Q (wX g X N T Rd Fr Ac Ch_2 PS Ly Pa OT Ea Ga Im0 Im1) 0 0 [(0, .ref (g.2.2 62)), (1, .int (zI a1)), (2, .int (zI a2)), (3, .int (zI v3_1))] 2 []) (fun rec_3 hrec_3 v3_1 Ch_2 h => ?_) _ _ _ h
  refine z_iload_n cx d_X1_writeDown_2 3 rfl rfl 3 rfl ?_
  refine kf0_f (P := V p l e zr0 s m args below meth c A s.heap g 6 Q (wX g X N T Rd Fr Ac Ch_2 PS Ly Pa OT Ea Ga Im0 Im1) 0 0 [(0, .ref (g.2.2 62)), (1, .int (zI a1)), (2, .int (zI a2))] 35 []) h (fun h => ?_) (fun k_4 hk_4 h => ?_)
  · refine z_iload_n cx d_X1_writeDown_35 36 rfl rfl 1 rfl ?_
    refine y_istore_n cx d_X1_writeDown_36 37 rfl rfl (by decide) (lv' := [(3, .int (zI a1)), (0, .ref (g.2.2 62)), (1, .int (zI a1)), (2, .int (zI a2))]) rfl ?_
    refine z_iload_n cx d_X1_writeDown_37 38 rfl rfl 3 rfl ?_
    refine y_istore cx d_X1_writeDown_38 40 rfl (by decide) (lv' := [(4, .int (zI a2)), (3, .int (zI a1)), (0, .ref (g.2.2 62)), (1, .int (zI a1)), (2, .int (zI a2))]) rfl ?_
    refine z_aload_n cx d_X1_writeDown_40 41 rfl rfl 2 rfl ?_
    refine z_get cx d_X1_writeDown_41 44 rfl e_Ch rfl zX1 6 (by decide) q_371 rfl rfl ?_
    refine y_iconst cx d_X1_writeDown_44 45 rfl ?_
    refine y_isub cx d_X1_writeDown_45 46 rfl ?_
    refine y_istore_b cx d_X1_writeDown_46 48 rfl (by decide) (fun y => [(5, .int (zI y)), (4, .int (zI a2)), (3, .int (zI a1)), (0, .ref (g.2.2 62)), (1, .int (zI a1)), (2, .int (zI a2))]) (fun y => rfl) h (fun v5_5 h => ?_)
    refine z_sub [3, 2, 1, 0] rfl ?_
    refine lop4_f (P := fun (v3_6 : Int) (v4_7 : Int) (v5_8 : Int) (Ch_9 : ZB) => V p l e zr0 s m args below meth c A s.heap g 6 Q (wX g X N T Rd Fr Ac Ch_9 PS Ly Pa OT Ea Ga Im0 Im1) 0 0 [(0, .ref (g.2.2 62)), (3, .int (zI v3_6)), (4, .int (zI v4_7)), (5, .int (zI v5_8))] 48 []) (fun rec_10 hrec_10 v3_6 v4_7 v5_8 Ch_9 h => ?_) _ _ _ _ _ h
    refine z_iload cx d_X1_writeDown_48 50 rfl 3 rfl ?_
    refine kf0_f (P := V p l e zr0 s m args below meth c A s.heap g 6 Q (wX g X N T Rd Fr Ac Ch_9 PS Ly Pa OT Ea Ga Im0 Im1) 0 0 [] 108 []) h (fun h => ?_) (fun k_11 hk_11 h => ?_)
    · subst hQ
      obtain rfl := Option.some.inj h
      exact z_vret cx d_X1_writeDown_108 rfl
    refine y_if_lt cx d_X1_writeDown_50 53 rfl 108 (by decide) rfl h (fun h => ?_) (fun h => ?_)
    · refine z_sub [] rfl ?_
      exact hk_11  h
    · refine z_iload_n cx d_X1_writeDown_53 54 rfl rfl 1 rfl ?_
      refine y_if_lt cx d_X1_writeDown_54 57 rfl 108 (by decide) rfl h (fun h => ?_) (fun h => ?_)
      · refine z_sub [] rfl ?_
        exact hk_11  h
      · refine z_aload_n cx d_X1_writeDown_57 58 rfl rfl 0 rfl ?_
        refine z_get cx d_X1_writeDown_58 61 rfl e_Ch rfl zX1 4 (by decide) q_369 rfl rfl ?_
        refine z_iload cx d_X1_writeDown_61 63 rfl 3 rfl ?_
        refine z_aload_n cx d_X1_writeDown_63 64 rfl rfl 0 rfl ?_
        refine z_get cx d_X1_writeDown_64 67 rfl e_Ch rfl zX1 2 (by decide) q_367 rfl rfl ?_
        refine z_iload_n cx d_X1_writeDown_67 68 rfl rfl 1 rfl ?_
        refine y_ialdx cx d_X1_writeDown_68 69 rfl e_Ch_queue (by decide) h (fun x_12 h => ?_)
        refine y_iast cx d_X1_writeDown_69 70 rfl e_Ch_step (by decide) h (fun _ h9 => s_Ch_step h9) (fun Ch_13 h => ?_)
        refine z_aload_n cx d_X1_writeDown_70 71 rfl rfl 0 rfl ?_
        refine z_get cx d_X1_writeDown_71 74 rfl e_Ch rfl zX1 5 (by decide) q_370 rfl rfl ?_
        refine z_iload cx d_X1_writeDown_74 76 rfl 3 rfl ?_
        refine z_iload cx d_X1_writeDown_76 78 rfl 2 rfl ?_
        refine y_iast cx d_X1_writeDown_78 79 rfl e_Ch_into (by decide) h (fun _ h9 => s_Ch_into h9) (fun Ch_14 h => ?_)
        refine z_aload_n cx d_X1_writeDown_79 80 rfl rfl 0 rfl ?_
        refine z_get cx d_X1_writeDown_80 83 rfl e_Ch rfl zX1 0 (by decide) q_365 rfl rfl ?_
        refine z_get cx d_X1_writeDown_83 86 rfl e_N rfl zX5 3 (by decide) q_166 rfl rfl ?_
        refine z_aload_n cx d_X1_writeDown_86 87 rfl rfl 0 rfl ?_
        refine z_get cx d_X1_writeDown_87 90 rfl e_Ch rfl zX1 2 (by decide) q_367 rfl rfl ?_
        refine z_iload_n cx d_X1_writeDown_90 91 rfl rfl 1 rfl ?_
        refine y_ialdx cx d_X1_writeDown_91 92 rfl e_Ch_queue (by decide) h (fun x_15 h => ?_)
        refine y_ialdx cx d_X1_writeDown_92 93 rfl e_N_home (by decide) h (fun x_16 h => ?_)
        refine y_istore cx d_X1_writeDown_93 95 rfl (by decide) (lv' := [(4, .int (zI x_16)), (0, .ref (g.2.2 62)), (3, .int (zI v3_6)), (5, .int (zI v5_8))]) rfl ?_
        refine z_aload_n cx d_X1_writeDown_95 96 rfl rfl 1 rfl ?_
        refine z_get cx d_X1_writeDown_96 99 rfl e_Ch rfl zX1 3 (by decide) q_368 rfl rfl ?_
        refine z_iload_n cx d_X1_writeDown_99 100 rfl rfl 2 rfl ?_
        refine y_ialdx cx d_X1_writeDown_100 101 rfl e_Ch_ledBy (by decide) h (fun x_17 h => ?_)
        refine y_istore_n cx d_X1_writeDown_101 102 rfl rfl (by decide) (lv' := [(3, .int (zI x_17)), (4, .int (zI x_16)), (0, .ref (g.2.2 62)), (5, .int (zI v5_8))]) rfl ?_
        refine y_iinc cx 3 d_X1_writeDown_102 105 rfl rfl (by decide) (lv' := [(5, .int (zI (v5_8 + (-1)))), (3, .int (zI x_17)), (4, .int (zI x_16)), (0, .ref (g.2.2 62))]) rfl ?_
        refine z_goto cx d_X1_writeDown_105 48 (by decide) ?_
        refine z_sub [3, 1, 2, 0] rfl ?_
        exact hrec_10 _ _ _ _ h
  refine y_if_lt cx d_X1_writeDown_3 6 rfl 35 (by decide) rfl h (fun h => ?_) (fun h => ?_)
  · refine z_sub [0, 1, 2] rfl ?_
    exact hk_4  h
  · refine z_aload_n cx d_X1_writeDown_6 7 rfl rfl 0 rfl ?_
    refine z_get cx d_X1_writeDown_7 10 rfl e_Ch rfl zX1 6 (by decide) q_371 rfl rfl ?_
    refine y_bipush cx d_X1_writeDown_10 12 rfl (by decide) ?_
    refine y_icmp_ge cx d_X1_writeDown_12 15 rfl 35 (by decide) rfl (nm_eq (x := 24) (by decide) (by decide)) h (fun h => ?_) (fun h => ?_)
    · refine z_sub [0, 1, 2] rfl ?_
      exact hk_4  h
    · refine z_aload_n cx d_X1_writeDown_15 16 rfl rfl 0 rfl ?_
      refine z_dup cx d_X1_writeDown_16 17 rfl rfl ?_
      refine z_get cx d_X1_writeDown_17 20 rfl e_Ch rfl zX1 6 (by decide) q_371 rfl rfl ?_
      refine y_iconst cx d_X1_writeDown_20 21 rfl ?_
      refine y_iadd cx d_X1_writeDown_21 22 rfl ?_
      refine y_put cx d_X1_writeDown_22 25 rfl e_Ch rfl zX1 tyX1_ok nmX1 6 (by decide) q_371 rfl rfl rfl rfl (Nat.le_of_ble_eq_true rfl) h (fun _ h9 => s_Ch_6 h9) (fun Ch_18 h => ?_)
      refine z_aload_n cx d_X1_writeDown_25 26 rfl rfl 0 rfl ?_
      refine z_get cx d_X1_writeDown_26 29 rfl e_Ch rfl zX1 3 (by decide) q_368 rfl rfl ?_
      refine z_iload_n cx d_X1_writeDown_29 30 rfl rfl 3 rfl ?_
      refine y_ialdx cx d_X1_writeDown_30 31 rfl e_Ch_ledBy (by decide) h (fun x_19 h => ?_)
      refine y_istore_n cx d_X1_writeDown_31 32 rfl rfl (by decide) (lv' := [(3, .int (zI x_19)), (0, .ref (g.2.2 62)), (1, .int (zI a1)), (2, .int (zI a2))]) rfl ?_
      refine z_goto cx d_X1_writeDown_32 2 (by decide) ?_
      refine z_sub [1, 2, 3, 0] rfl ?_
      exact hrec_3 _ _ h
def zrCh_find : Room := { frames := 3, cells := 0, slots := 0, locals := 77 }
set_option maxHeartbeats 4000000 in
theorem tCh_find {l : Launch} {g : ZG} {X : ZB} {N : ZB} {T : ZB} {Rd : ZB} {Fr : ZB} {Ac : ZA} {Ch : ZB} {PS : ZB} {Ly : ZB} {Pa : ZQ} {OT : ZB} {Ea : ZB} {Ga : ZB} {Im0 : ZO} {Im1 : ZO} {a1 : Int} {r : Int × ZB} (h : fCh_find N Ch a1 = some r) : zMi l yX1_find cX1_find 8 (some .int) zrCh_find g [.ref (g.2.2 62), .int (zI a1)] (wX g X N T Rd Fr Ac Ch PS Ly Pa OT Ea Ga Im0 Im1) (wX g X N T Rd Fr Ac r.2 PS Ly Pa OT Ea Ga Im0 Im1) (zI r.1) := by
  unfold fCh_find at h
  refine zMi_q (own := RX1) rfl (by decide +kernel) (Nat.le_of_ble_eq_true rfl) (lv := [(0, .ref (g.2.2 62)), (1, .int (zI a1))]) rfl ⟨rfl, rfl⟩ ?_
  intro p e s m args below meth c A Q hQ cx
  refine z_aload_n cx d_X1_find_0 1 rfl rfl 0 rfl ?_
  refine y_iconst cx d_X1_find_1 2 rfl ?_
  refine y_put cx d_X1_find_2 5 rfl e_Ch rfl zX1 tyX1_ok nmX1 6 (by decide) q_371 rfl rfl rfl rfl (Nat.le_of_ble_eq_true rfl) h (fun _ h9 => s_Ch_6 h9) (fun Ch_1 h => ?_)
  refine z_aload_n cx d_X1_find_5 6 rfl rfl 0 rfl ?_
  refine y_iconst cx d_X1_find_6 7 rfl ?_
  refine z_iload_n cx d_X1_find_7 8 rfl rfl 1 rfl ?_
  refine y_ishl cx d_X1_find_8 9 rfl ?_
  refine y_put cx d_X1_find_9 12 rfl e_Ch rfl zX1 tyX1_ok nmX1 7 (by decide) q_372 rfl rfl rfl rfl (Nat.le_of_ble_eq_true rfl) h (fun _ h9 => s_Ch_7 h9) (fun Ch_2 h => ?_)
  refine z_aload_n cx d_X1_find_12 13 rfl rfl 0 rfl ?_
  refine z_get cx d_X1_find_13 16 rfl e_Ch rfl zX1 2 (by decide) q_367 rfl rfl ?_
  refine y_iconst cx d_X1_find_16 17 rfl ?_
  refine z_iload_n cx d_X1_find_17 18 rfl rfl 1 rfl ?_
  refine y_iast cx d_X1_find_18 19 rfl e_Ch_queue (by decide) h (fun _ h9 => s_Ch_queue h9) (fun Ch_3 h => ?_)
  refine z_aload_n cx d_X1_find_19 20 rfl rfl 0 rfl ?_
  refine z_get cx d_X1_find_20 23 rfl e_Ch rfl zX1 3 (by decide) q_368 rfl rfl ?_
  refine y_iconst cx d_X1_find_23 24 rfl ?_
  refine y_iconst cx d_X1_find_24 25 rfl ?_
  refine y_iast cx d_X1_find_25 26 rfl e_Ch_ledBy (by decide) h (fun _ h9 => s_Ch_ledBy h9) (fun Ch_4 h => ?_)
  refine y_iconst cx d_X1_find_26 27 rfl ?_
  refine y_istore_n cx d_X1_find_27 28 rfl rfl (by decide) (lv' := [(2, .int (zI 1)), (0, .ref (g.2.2 62)), (1, .int (zI a1))]) rfl ?_
  refine y_iconst cx d_X1_find_28 29 rfl ?_
  refine y_istore_n cx d_X1_find_29 30 rfl rfl (by decide) (lv' := [(3, .int (zI 0)), (2, .int (zI 1)), (0, .ref (g.2.2 62)), (1, .int (zI a1))]) rfl ?_
  refine z_sub [2, 1, 0] rfl ?_
  refine lop3_f (P := fun (v2_5 : Int) (v3_6 : Int) (Ch_7 : ZB) => V p l e zrCh_find s m args below meth c A s.heap g 8 Q (wX g X N T Rd Fr Ac Ch_7 PS Ly Pa OT Ea Ga Im0 Im1) 0 0 [(0, .ref (g.2.2 62)), (2, .int (zI v2_5)), (3, .int (zI v3_6))] 30 []) (fun rec_8 hrec_8 v2_5 v3_6 Ch_7 h => ?_) _ _ _ _ h
  refine z_iload_n cx d_X1_find_30 31 rfl rfl 2 rfl ?_
  refine z_iload_n cx d_X1_find_31 32 rfl rfl 1 rfl ?_
  refine kf0_f (P := V p l e zrCh_find s m args below meth c A s.heap g 8 Q (wX g X N T Rd Fr Ac Ch_7 PS Ly Pa OT Ea Ga Im0 Im1) 0 0 [] 162 []) h (fun h => ?_) (fun k_9 hk_9 h => ?_)
  · refine y_iconst cx d_X1_find_162 163 rfl ?_
    subst hQ
    obtain rfl := Option.some.inj h
    exact z_iret cx d_X1_find_163 rfl rfl
  refine y_icmp_ge cx d_X1_find_32 35 rfl 162 (by decide) rfl rfl h (fun h => ?_) (fun h => ?_)
  · refine z_sub [] rfl ?_
    exact hk_9  h
  · refine z_iload_n cx d_X1_find_35 36 rfl rfl 2 rfl ?_
    refine y_bipush cx d_X1_find_36 38 rfl (by decide) ?_
    refine y_icmp_ge cx d_X1_find_38 41 rfl 162 (by decide) rfl (nm_eq (x := 24) (by decide) (by decide)) h (fun h => ?_) (fun h => ?_)
    · refine z_sub [] rfl ?_
      exact hk_9  h
    · refine z_aload_n cx d_X1_find_41 42 rfl rfl 0 rfl ?_
      refine z_get cx d_X1_find_42 45 rfl e_Ch rfl zX1 2 (by decide) q_367 rfl rfl ?_
      refine z_iload_n cx d_X1_find_45 46 rfl rfl 2 rfl ?_
      refine y_ialdx cx d_X1_find_46 47 rfl e_Ch_queue (by decide) h (fun x_10 h => ?_)
      refine y_istore cx d_X1_find_47 49 rfl (by decide) (lv' := [(4, .int (zI x_10)), (0, .ref (g.2.2 62)), (2, .int (zI v2_5)), (3, .int (zI v3_6))]) rfl ?_
      refine z_aload_n cx d_X1_find_49 50 rfl rfl 1 rfl ?_
      refine z_iload cx d_X1_find_50 52 rfl 0 rfl ?_
      refine y_callV_i (As := [.int (zI x_10)]) (rest := []) (W := fun u_11 => wX g X N T Rd Fr Ac u_11.2 PS Ly Pa OT Ea Ga Im0 Im1) (rf := fun u_11 => zI u_11.1) (rm := zrCh_freeForest) cx (fun _ hq => tCh_freeForest hq) d_X1_find_52 55 rfl kk_X1_freeForest q_808 q_810 q_15 rfl e_Ch rfl ⟨rfl, rfl⟩ ⟨Nat.le_of_ble_eq_true rfl, Nat.le_of_ble_eq_true rfl⟩ rfl rfl (Nat.le_of_ble_eq_true rfl) ⟨Nat.zero_le _, Nat.zero_le _⟩ h (fun u_11 h => ?_)
      refine y_istore cx d_X1_find_55 57 rfl (by decide) (lv' := [(5, .int (zI u_11.1)), (4, .int (zI x_10)), (0, .ref (g.2.2 62)), (2, .int (zI v2_5)), (3, .int (zI v3_6))]) rfl ?_
      refine z_iload cx d_X1_find_57 59 rfl 0 rfl ?_
      refine y_iconst cx d_X1_find_59 60 rfl ?_
      refine y_icmp_eq cx d_X1_find_60 63 rfl 75 (by decide) rfl (nm_eq (x := (-1)) (by decide) (by decide)) h (fun h => ?_) (fun h => ?_)
      · refine z_aload_n cx d_X1_find_75 76 rfl rfl 2 rfl ?_
        refine z_iload cx d_X1_find_76 78 rfl 1 rfl ?_
        refine y_callV_i (As := [.int (zI x_10)]) (rest := []) (W := fun u_12 => wX g X N T Rd Fr Ac u_12.2 PS Ly Pa OT Ea Ga Im0 Im1) (rf := fun u_12 => zI u_12.1) (rm := zrCh_allRings) cx (fun _ hq => tCh_allRings hq) d_X1_find_78 81 rfl kk_X1_allRings q_817 q_819 q_17 rfl e_Ch rfl ⟨rfl, rfl⟩ ⟨Nat.le_of_ble_eq_true rfl, Nat.le_of_ble_eq_true rfl⟩ rfl rfl (Nat.le_of_ble_eq_true rfl) ⟨Nat.zero_le _, Nat.zero_le _⟩ h (fun u_12 h => ?_)
        refine z_aload_n cx d_X1_find_81 82 rfl rfl 2 rfl ?_
        refine z_get cx d_X1_find_82 85 rfl e_Ch rfl zX1 7 (by decide) q_372 rfl rfl ?_
        refine y_iconst cx d_X1_find_85 86 rfl ?_
        refine y_ixor cx d_X1_find_86 87 rfl ?_
        refine y_iand cx d_X1_find_87 88 rfl ?_
        refine y_istore_b cx d_X1_find_88 90 rfl (by decide) (fun y => [(6, .int (zI y)), (5, .int (zI u_11.1)), (4, .int (zI x_10)), (0, .ref (g.2.2 62)), (2, .int (zI v2_5)), (3, .int (zI v3_6))]) (fun y => rfl) h (fun v6_13 h => ?_)
        refine z_aload_n cx d_X1_find_90 91 rfl rfl 3 rfl ?_
        refine z_dup cx d_X1_find_91 92 rfl rfl ?_
        refine z_get cx d_X1_find_92 95 rfl e_Ch rfl zX1 7 (by decide) q_372 rfl rfl ?_
        refine z_iload cx d_X1_find_95 97 rfl 0 rfl ?_
        refine y_ior cx d_X1_find_97 98 rfl ?_
        refine y_put cx d_X1_find_98 101 rfl e_Ch rfl zX1 tyX1_ok nmX1 7 (by decide) q_372 rfl rfl rfl rfl (Nat.le_of_ble_eq_true rfl) h (fun _ h9 => s_Ch_7 h9) (fun Ch_14 h => ?_)
        refine y_iconst cx d_X1_find_101 102 rfl ?_
        refine y_istore cx d_X1_find_102 104 rfl (by decide) (lv' := [(7, .int (zI 0)), (6, .int (zI v6_13)), (5, .int (zI u_11.1)), (4, .int (zI x_10)), (0, .ref (g.2.2 62)), (2, .int (zI v2_5)), (3, .int (zI v3_6))]) rfl ?_
        refine z_sub [4, 5, 6, 1, 0] rfl ?_
        refine lop3_f (P := fun (v2_15 : Int) (v7_16 : Int) (Ch_17 : ZB) => V p l e zrCh_find s m args below meth c A s.heap g 8 Q (wX g X N T Rd Fr Ac Ch_17 PS Ly Pa OT Ea Ga Im0 Im1) 0 0 [(0, .ref (g.2.2 62)), (2, .int (zI v2_15)), (3, .int (zI v3_6)), (6, .int (zI v6_13)), (7, .int (zI v7_16))] 104 []) (fun rec_18 hrec_18 v2_15 v7_16 Ch_17 h => ?_) _ _ _ _ h
        refine z_iload cx d_X1_find_104 106 rfl 4 rfl ?_
        refine z_aload_n cx d_X1_find_106 107 rfl rfl 0 rfl ?_
        refine z_get cx d_X1_find_107 110 rfl e_Ch rfl zX1 0 (by decide) q_365 rfl rfl ?_
        refine z_get cx d_X1_find_110 113 rfl e_N rfl zX5 5 (by decide) q_180 rfl rfl ?_
        refine kf0_f (P := V p l e zrCh_find s m args below meth c A s.heap g 8 Q (wX g X N T Rd Fr Ac Ch_17 PS Ly Pa OT Ea Ga Im0 Im1) 0 0 [(0, .ref (g.2.2 62)), (2, .int (zI v2_15)), (3, .int (zI v3_6))] 156 []) h (fun h => ?_) (fun k_19 hk_19 h => ?_)
        · refine y_iinc cx 2 d_X1_find_156 159 rfl rfl (by decide) (lv' := [(3, .int (zI (v3_6 + 1))), (0, .ref (g.2.2 62)), (2, .int (zI v2_15))]) rfl ?_
          refine z_goto cx d_X1_find_159 30 (by decide) ?_
          refine z_sub [1, 2, 0] rfl ?_
          exact hrec_8 _ _ _ h
        refine y_icmp_ge cx d_X1_find_113 116 rfl 156 (by decide) rfl rfl h (fun h => ?_) (fun h => ?_)
        · refine z_sub [0, 1, 2] rfl ?_
          exact hk_19  h
        · refine z_iload_n cx d_X1_find_116 117 rfl rfl 1 rfl ?_
          refine y_bipush cx d_X1_find_117 119 rfl (by decide) ?_
          refine y_icmp_ge cx d_X1_find_119 122 rfl 156 (by decide) rfl (nm_eq (x := 24) (by decide) (by decide)) h (fun h => ?_) (fun h => ?_)
          · refine z_sub [0, 1, 2] rfl ?_
            exact hk_19  h
          · refine z_iload cx d_X1_find_122 124 rfl 3 rfl ?_
            refine z_iload cx d_X1_find_124 126 rfl 4 rfl ?_
            refine y_ishr cx d_X1_find_126 127 rfl ?_
            refine y_iconst cx d_X1_find_127 128 rfl ?_
            refine y_iand cx d_X1_find_128 129 rfl ?_
            refine kf2_f (P := fun (v2_20 : Int) (Ch_21 : ZB) => V p l e zrCh_find s m args below meth c A s.heap g 8 Q (wX g X N T Rd Fr Ac Ch_21 PS Ly Pa OT Ea Ga Im0 Im1) 0 0 [(0, .ref (g.2.2 62)), (2, .int (zI v2_20)), (3, .int (zI v3_6)), (6, .int (zI v6_13)), (7, .int (zI v7_16))] 150 []) h (fun v2_20 Ch_21 h => ?_) (fun k_22 hk_22 h => ?_)
            · refine y_iinc cx 4 d_X1_find_150 153 rfl rfl (by decide) (lv' := [(7, .int (zI (v7_16 + 1))), (0, .ref (g.2.2 62)), (2, .int (zI v2_20)), (3, .int (zI v3_6)), (6, .int (zI v6_13))]) rfl ?_
              refine z_goto cx d_X1_find_153 104 (by decide) ?_
              refine z_sub [1, 2, 3, 4, 0] rfl ?_
              exact hrec_18 _ _ _ h
            refine y_if_eq cx d_X1_find_129 132 rfl 150 (by decide) (nm_zand _ _) h (fun h => ?_) (fun h => ?_)
            · exact hk_22 _ _ h
            · refine z_aload_n cx d_X1_find_132 133 rfl rfl 0 rfl ?_
              refine z_get cx d_X1_find_133 136 rfl e_Ch rfl zX1 2 (by decide) q_367 rfl rfl ?_
              refine z_iload_n cx d_X1_find_136 137 rfl rfl 1 rfl ?_
              refine z_iload cx d_X1_find_137 139 rfl 4 rfl ?_
              refine y_iast cx d_X1_find_139 140 rfl e_Ch_queue (by decide) h (fun _ h9 => s_Ch_queue h9) (fun Ch_23 h => ?_)
              refine z_aload_n cx d_X1_find_140 141 rfl rfl 0 rfl ?_
              refine z_get cx d_X1_find_141 144 rfl e_Ch rfl zX1 3 (by decide) q_368 rfl rfl ?_
              refine z_iload_n cx d_X1_find_144 145 rfl rfl 1 rfl ?_
              refine z_iload_n cx d_X1_find_145 146 rfl rfl 2 rfl ?_
              refine y_iast cx d_X1_find_146 147 rfl e_Ch_ledBy (by decide) h (fun _ h9 => s_Ch_ledBy h9) (fun Ch_24 h => ?_)
              refine y_iinc cx 1 d_X1_find_147 150 rfl rfl (by decide) (lv' := [(2, .int (zI (v2_15 + 1))), (0, .ref (g.2.2 62)), (3, .int (zI v3_6)), (6, .int (zI v6_13)), (7, .int (zI v7_16))]) rfl ?_
              refine z_sub [1, 0, 2, 3, 4] rfl ?_
              exact hk_22 _ _ h
      · refine z_aload_n cx d_X1_find_63 64 rfl rfl 2 rfl ?_
        refine z_iload_n cx d_X1_find_64 65 rfl rfl 4 rfl ?_
        refine z_iload cx d_X1_find_65 67 rfl 0 rfl ?_
        refine y_callV_v (As := [.int (zI v3_6), .int (zI u_11.1)]) (rest := []) (W := fun u_25 => wX g X N T Rd Fr Ac u_25 PS Ly Pa OT Ea Ga Im0 Im1) (rm := zr0) cx (fun _ hq => tCh_writeDown hq) d_X1_find_67 70 rfl kk_X1_writeDown q_813 q_815 q_16 rfl e_Ch rfl ⟨rfl, rfl⟩ ⟨Nat.le_of_ble_eq_true rfl, Nat.le_of_ble_eq_true rfl⟩ rfl rfl (Nat.le_of_ble_eq_true rfl) ⟨Nat.zero_le _, Nat.zero_le _⟩ h (fun u_25 h => ?_)
        refine z_aload_n cx d_X1_find_70 71 rfl rfl 2 rfl ?_
        refine z_get cx d_X1_find_71 74 rfl e_Ch rfl zX1 6 (by decide) q_371 rfl rfl ?_
        subst hQ
        obtain rfl := Option.some.inj h
        exact z_iret cx d_X1_find_74 rfl rfl
def zrCh_remember : Room := { frames := 1, cells := 0, slots := 0, locals := 40 }
set_option maxHeartbeats 4000000 in
theorem tCh_remember {l : Launch} {g : ZG} {X : ZB} {N : ZB} {T : ZB} {Rd : ZB} {Fr : ZB} {Ac : ZA} {Ch : ZB} {PS : ZB} {Ly : ZB} {Pa : ZQ} {OT : ZB} {Ea : ZB} {Ga : ZB} {Im0 : ZO} {Im1 : ZO}  {r : ZB} (h : fCh_remember N Ch = some r) : zMv l yX1_remember cX1_remember 2 none zrCh_remember g [.ref (g.2.2 62)] (wX g X N T Rd Fr Ac Ch PS Ly Pa OT Ea Ga Im0 Im1) (wX g X N T Rd Fr Ac r PS Ly Pa OT Ea Ga Im0 Im1) := by
  unfold fCh_remember at h
  refine zMv_q (own := RX1) rfl (by decide +kernel) (Nat.le_of_ble_eq_true rfl) (lv := [(0, .ref (g.2.2 62))]) rfl ⟨rfl, rfl⟩ ?_
  intro p e s m args below meth c A Q hQ cx
  refine z_aload_n cx d_X1_remember_0 1 rfl rfl 0 rfl ?_
  refine z_get cx d_X1_remember_1 4 rfl e_Ch rfl zX1 6 (by decide) q_371 rfl rfl ?_
  refine y_if_le cx d_X1_remember_4 7 rfl 50 (by decide) rfl h (fun h => ?_) (fun h => ?_)
  · refine z_aload_n cx d_X1_remember_50 51 rfl rfl 0 rfl ?_
    refine y_iconst cx d_X1_remember_51 52 rfl ?_
    refine y_put cx d_X1_remember_52 55 rfl e_Ch rfl zX1 tyX1_ok nmX1 11 (by decide) q_376 rfl rfl rfl rfl (Nat.le_of_ble_eq_true rfl) h (fun _ h9 => s_Ch_11 h9) (fun Ch_1 h => ?_)
    refine y_iconst cx d_X1_remember_55 56 rfl ?_
    refine y_istore_n cx d_X1_remember_56 57 rfl rfl (by decide) (lv' := [(1, .int (zI 0)), (0, .ref (g.2.2 62))]) rfl ?_
    refine z_sub [1, 0] rfl ?_
    refine lop2_f (P := fun (v1_2 : Int) (Ch_3 : ZB) => V p l e zrCh_remember s m args below meth c A s.heap g 2 Q (wX g X N T Rd Fr Ac Ch_3 PS Ly Pa OT Ea Ga Im0 Im1) 0 0 [(0, .ref (g.2.2 62)), (1, .int (zI v1_2))] 57 []) (fun rec_4 hrec_4 v1_2 Ch_3 h => ?_) _ _ _ h
    refine z_iload_n cx d_X1_remember_57 58 rfl rfl 1 rfl ?_
    refine z_aload_n cx d_X1_remember_58 59 rfl rfl 0 rfl ?_
    refine z_get cx d_X1_remember_59 62 rfl e_Ch rfl zX1 0 (by decide) q_365 rfl rfl ?_
    refine z_get cx d_X1_remember_62 65 rfl e_N rfl zX5 5 (by decide) q_180 rfl rfl ?_
    refine y_icmp_ge cx d_X1_remember_65 68 rfl 102 (by decide) rfl rfl h (fun h => ?_) (fun h => ?_)
    · subst hQ
      obtain rfl := Option.some.inj h
      exact z_vret cx d_X1_remember_102 rfl
    · refine z_aload_n cx d_X1_remember_68 69 rfl rfl 0 rfl ?_
      refine z_get cx d_X1_remember_69 72 rfl e_Ch rfl zX1 7 (by decide) q_372 rfl rfl ?_
      refine z_iload_n cx d_X1_remember_72 73 rfl rfl 1 rfl ?_
      refine y_ishr cx d_X1_remember_73 74 rfl ?_
      refine y_iconst cx d_X1_remember_74 75 rfl ?_
      refine y_iand cx d_X1_remember_75 76 rfl ?_
      refine kf1_f (P := fun (Ch_5 : ZB) => V p l e zrCh_remember s m args below meth c A s.heap g 2 Q (wX g X N T Rd Fr Ac Ch_5 PS Ly Pa OT Ea Ga Im0 Im1) 0 0 [(0, .ref (g.2.2 62)), (1, .int (zI v1_2))] 96 []) h (fun Ch_5 h => ?_) (fun k_6 hk_6 h => ?_)
      · refine y_iinc cx 1 d_X1_remember_96 99 rfl rfl (by decide) (lv' := [(1, .int (zI (v1_2 + 1))), (0, .ref (g.2.2 62))]) rfl ?_
        refine z_goto cx d_X1_remember_99 57 (by decide) ?_
        refine z_sub [1, 0] rfl ?_
        exact hrec_4 _ _ h
      refine y_if_eq cx d_X1_remember_76 79 rfl 96 (by decide) (nm_zand _ _) h (fun h => ?_) (fun h => ?_)
      · exact hk_6 _ h
      · refine z_aload_n cx d_X1_remember_79 80 rfl rfl 0 rfl ?_
        refine z_dup cx d_X1_remember_80 81 rfl rfl ?_
        refine z_get cx d_X1_remember_81 84 rfl e_Ch rfl zX1 11 (by decide) q_376 rfl rfl ?_
        refine z_aload_n cx d_X1_remember_84 85 rfl rfl 0 rfl ?_
        refine z_get cx d_X1_remember_85 88 rfl e_Ch rfl zX1 0 (by decide) q_365 rfl rfl ?_
        refine z_iload_n cx d_X1_remember_88 89 rfl rfl 1 rfl ?_
        refine y_callV_i (As := [.int (zI v1_2)]) (rest := [.int (zI (Ch_3.1 11)), .ref (g.2.2 62)]) (W := fun u_7 => wX g X N T Rd Fr Ac Ch_3 PS Ly Pa OT Ea Ga Im0 Im1) (rf := fun u_7 => zI u_7) (rm := zr0) cx (fun _ hq => tN_ends hq) d_X1_remember_89 92 rfl kk_X5_ends q_826 q_761 q_762 rfl e_N rfl ⟨rfl, rfl⟩ ⟨Nat.le_of_ble_eq_true rfl, Nat.le_of_ble_eq_true rfl⟩ rfl rfl (Nat.le_of_ble_eq_true rfl) ⟨Nat.zero_le _, Nat.zero_le _⟩ h (fun u_7 h => ?_)
        refine y_ior cx d_X1_remember_92 93 rfl ?_
        refine y_put cx d_X1_remember_93 96 rfl e_Ch rfl zX1 tyX1_ok nmX1 11 (by decide) q_376 rfl rfl rfl rfl (Nat.le_of_ble_eq_true rfl) h (fun _ h9 => s_Ch_11 h9) (fun Ch_8 h => ?_)
        exact hk_6 _ h
  · refine z_aload_n cx d_X1_remember_7 8 rfl rfl 0 rfl ?_
    refine z_get cx d_X1_remember_8 11 rfl e_Ch rfl zX1 4 (by decide) q_369 rfl rfl ?_
    refine y_iconst cx d_X1_remember_11 12 rfl ?_
    refine z_aload_n cx d_X1_remember_12 13 rfl rfl 0 rfl ?_
    refine z_get cx d_X1_remember_13 16 rfl e_Ch rfl zX1 8 (by decide) q_373 rfl rfl ?_
    refine y_iconst cx d_X1_remember_16 17 rfl ?_
    refine z_aload_n cx d_X1_remember_17 18 rfl rfl 0 rfl ?_
    refine z_get cx d_X1_remember_18 21 rfl e_Ch rfl zX1 6 (by decide) q_371 rfl rfl ?_
    refine y_copy cx d_X1_remember_21 24 rfl q_825 q_694 q_693 q_130 e_Ch_step e_Ch_toldStep (by decide) (by decide) (Nat.le_of_ble_eq_true rfl) (Nat.le_of_ble_eq_true rfl) h (fun _ h9 => s_Ch_toldStep h9) (fun Ch_9 h => ?_)
    refine z_aload_n cx d_X1_remember_24 25 rfl rfl 0 rfl ?_
    refine z_get cx d_X1_remember_25 28 rfl e_Ch rfl zX1 5 (by decide) q_370 rfl rfl ?_
    refine y_iconst cx d_X1_remember_28 29 rfl ?_
    refine z_aload_n cx d_X1_remember_29 30 rfl rfl 0 rfl ?_
    refine z_get cx d_X1_remember_30 33 rfl e_Ch rfl zX1 9 (by decide) q_374 rfl rfl ?_
    refine y_iconst cx d_X1_remember_33 34 rfl ?_
    refine z_aload_n cx d_X1_remember_34 35 rfl rfl 0 rfl ?_
    refine z_get cx d_X1_remember_35 38 rfl e_Ch rfl zX1 6 (by decide) q_371 rfl rfl ?_
    refine y_copy cx d_X1_remember_38 41 rfl q_825 q_694 q_693 q_130 e_Ch_into e_Ch_toldInto (by decide) (by decide) (Nat.le_of_ble_eq_true rfl) (Nat.le_of_ble_eq_true rfl) h (fun _ h9 => s_Ch_toldInto h9) (fun Ch_10 h => ?_)
    refine z_aload_n cx d_X1_remember_41 42 rfl rfl 0 rfl ?_
    refine z_aload_n cx d_X1_remember_42 43 rfl rfl 0 rfl ?_
    refine z_get cx d_X1_remember_43 46 rfl e_Ch rfl zX1 6 (by decide) q_371 rfl rfl ?_
    refine y_put cx d_X1_remember_46 49 rfl e_Ch rfl zX1 tyX1_ok nmX1 10 (by decide) q_375 rfl rfl rfl rfl (Nat.le_of_ble_eq_true rfl) h (fun _ h9 => s_Ch_10 h9) (fun Ch_11 h => ?_)
    subst hQ
    obtain rfl := Option.some.inj h
    exact z_vret cx d_X1_remember_49 rfl
set_option maxHeartbeats 4000000 in
theorem tCh_carryOut {l : Launch} {g : ZG} {X : ZB} {N : ZB} {T : ZB} {Rd : ZB} {Fr : ZB} {Ac : ZA} {Ch : ZB} {PS : ZB} {Ly : ZB} {Pa : ZQ} {OT : ZB} {Ea : ZB} {Ga : ZB} {Im0 : ZO} {Im1 : ZO}  {r : ZB} (h : fCh_carryOut N Ch = some r) : zMv l yX1_carryOut cX1_carryOut 2 none zr0 g [.ref (g.2.2 62)] (wX g X N T Rd Fr Ac Ch PS Ly Pa OT Ea Ga Im0 Im1) (wX g X r T Rd Fr Ac Ch PS Ly Pa OT Ea Ga Im0 Im1) := by
  unfold fCh_carryOut at h
  refine zMv_q (own := RX1) rfl (by decide +kernel) (Nat.le_of_ble_eq_true rfl) (lv := [(0, .ref (g.2.2 62))]) rfl ⟨rfl, rfl⟩ ?_
  intro p e s m args below meth c A Q hQ cx
  refine y_iconst cx d_X1_carryOut_0 1 rfl ?_
  refine y_istore_n cx d_X1_carryOut_1 2 rfl rfl (by decide) (lv' := [(1, .int (zI 0)), (0, .ref (g.2.2 62))]) rfl ?_
  refine z_sub [1, 0] rfl ?_
  refine lop2_f (P := fun (v1_1 : Int) (N_2 : ZB) => V p l e zr0 s m args below meth c A s.heap g 2 Q (wX g X N_2 T Rd Fr Ac Ch PS Ly Pa OT Ea Ga Im0 Im1) 0 0 [(0, .ref (g.2.2 62)), (1, .int (zI v1_1))] 2 []) (fun rec_3 hrec_3 v1_1 N_2 h => ?_) _ _ _ h
  refine z_iload_n cx d_X1_carryOut_2 3 rfl rfl 1 rfl ?_
  refine z_aload_n cx d_X1_carryOut_3 4 rfl rfl 0 rfl ?_
  refine z_get cx d_X1_carryOut_4 7 rfl e_Ch rfl zX1 6 (by decide) q_371 rfl rfl ?_
  refine y_icmp_ge cx d_X1_carryOut_7 10 rfl 36 (by decide) rfl rfl h (fun h => ?_) (fun h => ?_)
  · subst hQ
    obtain rfl := Option.some.inj h
    exact z_vret cx d_X1_carryOut_36 rfl
  · refine z_aload_n cx d_X1_carryOut_10 11 rfl rfl 0 rfl ?_
    refine z_get cx d_X1_carryOut_11 14 rfl e_Ch rfl zX1 0 (by decide) q_365 rfl rfl ?_
    refine z_get cx d_X1_carryOut_14 17 rfl e_N rfl zX5 3 (by decide) q_166 rfl rfl ?_
    refine z_aload_n cx d_X1_carryOut_17 18 rfl rfl 0 rfl ?_
    refine z_get cx d_X1_carryOut_18 21 rfl e_Ch rfl zX1 4 (by decide) q_369 rfl rfl ?_
    refine z_iload_n cx d_X1_carryOut_21 22 rfl rfl 1 rfl ?_
    refine y_ialdx cx d_X1_carryOut_22 23 rfl e_Ch_step (by decide) h (fun x_4 h => ?_)
    refine z_aload_n cx d_X1_carryOut_23 24 rfl rfl 0 rfl ?_
    refine z_get cx d_X1_carryOut_24 27 rfl e_Ch rfl zX1 5 (by decide) q_370 rfl rfl ?_
    refine z_iload_n cx d_X1_carryOut_27 28 rfl rfl 1 rfl ?_
    refine y_ialdx cx d_X1_carryOut_28 29 rfl e_Ch_into (by decide) h (fun x_5 h => ?_)
    refine y_iast cx d_X1_carryOut_29 30 rfl e_N_home (by decide) h (fun _ h9 => s_N_home h9) (fun N_6 h => ?_)
    refine y_iinc cx 1 d_X1_carryOut_30 33 rfl rfl (by decide) (lv' := [(1, .int (zI (v1_1 + 1))), (0, .ref (g.2.2 62))]) rfl ?_
    refine z_goto cx d_X1_carryOut_33 2 (by decide) ?_
    refine z_sub [1, 0] rfl ?_
    exact hrec_3 _ _ h
set_option maxHeartbeats 4000000 in
theorem tCh_toldAt {l : Launch} {g : ZG} {X : ZB} {N : ZB} {T : ZB} {Rd : ZB} {Fr : ZB} {Ac : ZA} {Ch : ZB} {PS : ZB} {Ly : ZB} {Pa : ZQ} {OT : ZB} {Ea : ZB} {Ga : ZB} {Im0 : ZO} {Im1 : ZO} {a1 : Int} {a2 : Int} {r : Int} (h : fCh_toldAt Ch a1 a2 = some r) : zMi l yX1_toldAt cX1_toldAt 3 (some .int) zr0 g [.ref (g.2.2 62), .int (zI a1), .int (zI a2)] (wX g X N T Rd Fr Ac Ch PS Ly Pa OT Ea Ga Im0 Im1) (wX g X N T Rd Fr Ac Ch PS Ly Pa OT Ea Ga Im0 Im1) (zI r) := by
  unfold fCh_toldAt at h
  refine zMi_q (own := RX1) rfl (by decide +kernel) (Nat.le_of_ble_eq_true rfl) (lv := [(0, .ref (g.2.2 62)), (1, .int (zI a1)), (2, .int (zI a2))]) rfl ⟨rfl, rfl⟩ ?_
  intro p e s m args below meth c A Q hQ cx
  refine z_iload_n cx d_X1_toldAt_0 1 rfl rfl 1 rfl ?_
  refine kf0_f (P := V p l e zr0 s m args below meth c A s.heap g 3 Q (wX g X N T Rd Fr Ac Ch PS Ly Pa OT Ea Ga Im0 Im1) 0 0 [] 21 []) h (fun h => ?_) (fun k_1 hk_1 h => ?_)
  · refine y_iconst cx d_X1_toldAt_21 22 rfl ?_
    subst hQ
    obtain rfl := Option.some.inj h
    exact z_iret cx d_X1_toldAt_22 rfl rfl
  refine y_if_lt cx d_X1_toldAt_1 4 rfl 21 (by decide) rfl h (fun h => ?_) (fun h => ?_)
  · refine z_sub [] rfl ?_
    exact hk_1  h
  · refine z_iload_n cx d_X1_toldAt_4 5 rfl rfl 1 rfl ?_
    refine z_aload_n cx d_X1_toldAt_5 6 rfl rfl 0 rfl ?_
    refine z_get cx d_X1_toldAt_6 9 rfl e_Ch rfl zX1 10 (by decide) q_375 rfl rfl ?_
    refine y_icmp_ge cx d_X1_toldAt_9 12 rfl 21 (by decide) rfl rfl h (fun h => ?_) (fun h => ?_)
    · refine z_sub [] rfl ?_
      exact hk_1  h
    · refine z_iload_n cx d_X1_toldAt_12 13 rfl rfl 2 rfl ?_
      refine y_if_lt cx d_X1_toldAt_13 16 rfl 21 (by decide) rfl h (fun h => ?_) (fun h => ?_)
      · refine z_sub [] rfl ?_
        exact hk_1  h
      · refine z_iload_n cx d_X1_toldAt_16 17 rfl rfl 2 rfl ?_
        refine y_iconst cx d_X1_toldAt_17 18 rfl ?_
        refine y_icmp_le cx d_X1_toldAt_18 21 rfl 23 (by decide) rfl (nm_eq (x := 1) (by decide) (by decide)) h (fun h => ?_) (fun h => ?_)
        · refine z_iload_n cx d_X1_toldAt_23 24 rfl rfl 2 rfl ?_
          refine kf1_f (P := fun (w0_2 : Int) => V p l e zr0 s m args below meth c A s.heap g 3 Q (wX g X N T Rd Fr Ac Ch PS Ly Pa OT Ea Ga Im0 Im1) 0 0 [] 42 [.int (zI w0_2)]) h (fun w0_2 h => ?_) (fun k_3 hk_3 h => ?_)
          · subst hQ
            obtain rfl := Option.some.inj h
            exact z_iret cx d_X1_toldAt_42 rfl rfl
          refine y_if_ne cx d_X1_toldAt_24 27 rfl 36 (by decide) rfl h (fun h => ?_) (fun h => ?_)
          · refine z_aload_n cx d_X1_toldAt_36 37 rfl rfl 0 rfl ?_
            refine z_get cx d_X1_toldAt_37 40 rfl e_Ch rfl zX1 9 (by decide) q_374 rfl rfl ?_
            refine z_iload_n cx d_X1_toldAt_40 41 rfl rfl 1 rfl ?_
            refine y_ialdx cx d_X1_toldAt_41 42 rfl e_Ch_toldInto (by decide) h (fun x_4 h => ?_)
            refine z_sub [] rfl ?_
            exact hk_3 _ h
          · refine z_aload_n cx d_X1_toldAt_27 28 rfl rfl 0 rfl ?_
            refine z_get cx d_X1_toldAt_28 31 rfl e_Ch rfl zX1 8 (by decide) q_373 rfl rfl ?_
            refine z_iload_n cx d_X1_toldAt_31 32 rfl rfl 1 rfl ?_
            refine y_ialdx cx d_X1_toldAt_32 33 rfl e_Ch_toldStep (by decide) h (fun x_5 h => ?_)
            refine z_goto cx d_X1_toldAt_33 42 (by decide) ?_
            refine z_sub [] rfl ?_
            exact hk_3 _ h
        · refine z_sub [] rfl ?_
          exact hk_1  h
set_option maxHeartbeats 4000000 in
theorem tCh_toldCrowd {l : Launch} {g : ZG} {X : ZB} {N : ZB} {T : ZB} {Rd : ZB} {Fr : ZB} {Ac : ZA} {Ch : ZB} {PS : ZB} {Ly : ZB} {Pa : ZQ} {OT : ZB} {Ea : ZB} {Ga : ZB} {Im0 : ZO} {Im1 : ZO}  {r : Int} (h : fCh_toldCrowd Ch = some r) : zMi l yX1_toldCrowd cX1_toldCrowd 1 (some .int) zr0 g [.ref (g.2.2 62)] (wX g X N T Rd Fr Ac Ch PS Ly Pa OT Ea Ga Im0 Im1) (wX g X N T Rd Fr Ac Ch PS Ly Pa OT Ea Ga Im0 Im1) (zI r) := by
  unfold fCh_toldCrowd at h
  refine zMi_q (own := RX1) rfl (by decide +kernel) (Nat.le_of_ble_eq_true rfl) (lv := [(0, .ref (g.2.2 62))]) rfl ⟨rfl, rfl⟩ ?_
  intro p e s m args below meth c A Q hQ cx
  refine z_aload_n cx d_X1_toldCrowd_0 1 rfl rfl 0 rfl ?_
  refine z_get cx d_X1_toldCrowd_1 4 rfl e_Ch rfl zX1 11 (by decide) q_376 rfl rfl ?_
  subst hQ
  obtain rfl := Option.some.inj h
  exact z_iret cx d_X1_toldCrowd_4 rfl rfl
def zrCh_isTree : Room := { frames := 1, cells := 0, slots := 0, locals := 23 }
set_option maxHeartbeats 4000000 in
theorem tCh_isTree {l : Launch} {g : ZG} {X : ZB} {N : ZB} {T : ZB} {Rd : ZB} {Fr : ZB} {Ac : ZA} {Ch : ZB} {PS : ZB} {Ly : ZB} {Pa : ZQ} {OT : ZB} {Ea : ZB} {Ga : ZB} {Im0 : ZO} {Im1 : ZO} {a1 : Int} {r : Int} (h : fCh_isTree N a1 = some r) : zMi l yX1_isTree cX1_isTree 2 (some .boolean) zrCh_isTree g [.ref (g.2.2 62), .int (zI a1)] (wX g X N T Rd Fr Ac Ch PS Ly Pa OT Ea Ga Im0 Im1) (wX g X N T Rd Fr Ac Ch PS Ly Pa OT Ea Ga Im0 Im1) (zI r) := by
  unfold fCh_isTree at h
  refine zMi_q (own := RX1) rfl (by decide +kernel) (Nat.le_of_ble_eq_true rfl) (lv := [(0, .ref (g.2.2 62)), (1, .int (zI a1))]) rfl ⟨rfl, rfl⟩ ?_
  intro p e s m args below meth c A Q hQ cx
  refine z_aload_n cx d_X1_isTree_0 1 rfl rfl 0 rfl ?_
  refine z_get cx d_X1_isTree_1 4 rfl e_Ch rfl zX1 0 (by decide) q_365 rfl rfl ?_
  refine z_iload_n cx d_X1_isTree_4 5 rfl rfl 1 rfl ?_
  refine y_callV_i (As := [.int (zI a1)]) (rest := []) (W := fun u_1 => wX g X N T Rd Fr Ac Ch PS Ly Pa OT Ea Ga Im0 Im1) (rf := fun u_1 => zI u_1) (rm := zr0) cx (fun _ hq => tN_forestSet hq) d_X1_isTree_5 8 rfl kk_X5_forestSet q_867 q_729 q_730 rfl e_N rfl ⟨rfl, rfl⟩ ⟨Nat.le_of_ble_eq_true rfl, Nat.le_of_ble_eq_true rfl⟩ rfl rfl (Nat.le_of_ble_eq_true rfl) ⟨Nat.zero_le _, Nat.zero_le _⟩ h (fun u_1 h => ?_)
  refine y_callS_i (As := [.int (zI u_1)]) (rest := []) (W := fun u_2 => wX g X N T Rd Fr Ac Ch PS Ly Pa OT Ea Ga Im0 Im1) (rf := fun u_2 => zI u_2) (rm := zr0) cx (fun _ hq => tJI_bitCount hq) d_X1_isTree_8 11 rfl kk_B_bitCount q_868 q_741 ⟨rfl, rfl⟩ ⟨Nat.le_of_ble_eq_true rfl, Nat.le_of_ble_eq_true rfl⟩ rfl rfl (Nat.le_of_ble_eq_true rfl) ⟨Nat.zero_le _, Nat.zero_le _⟩ h (fun u_2 h => ?_)
  refine z_aload_n cx d_X1_isTree_11 12 rfl rfl 0 rfl ?_
  refine z_get cx d_X1_isTree_12 15 rfl e_Ch rfl zX1 0 (by decide) q_365 rfl rfl ?_
  refine z_get cx d_X1_isTree_15 18 rfl e_N rfl zX5 4 (by decide) q_171 rfl rfl ?_
  refine y_iconst cx d_X1_isTree_18 19 rfl ?_
  refine y_isub cx d_X1_isTree_19 20 rfl ?_
  refine kf1_f (P := fun (w0_3 : Int) => V p l e zrCh_isTree s m args below meth c A s.heap g 2 Q (wX g X N T Rd Fr Ac Ch PS Ly Pa OT Ea Ga Im0 Im1) 0 0 [] 28 [.int (zI w0_3)]) h (fun w0_3 h => ?_) (fun k_4 hk_4 h => ?_)
  · obtain ⟨hz, h⟩ := zo_i h
    subst hQ
    obtain rfl := Option.some.inj h
    exact z_zret cx d_X1_isTree_28 (zb01 hz) rfl rfl
  refine y_icmp_ne cx d_X1_isTree_20 23 rfl 27 (by decide) rfl rfl h (fun h => ?_) (fun h => ?_)
  · refine y_iconst cx d_X1_isTree_27 28 rfl ?_
    refine z_sub [] rfl ?_
    exact hk_4 _ h
  · refine y_iconst cx d_X1_isTree_23 24 rfl ?_
    refine z_goto cx d_X1_isTree_24 28 (by decide) ?_
    refine z_sub [] rfl ?_
    exact hk_4 _ h
def zrCh_traded : Room := { frames := 2, cells := 0, slots := 0, locals := 54 }
set_option maxHeartbeats 4000000 in
theorem tCh_traded {l : Launch} {g : ZG} {X : ZB} {N : ZB} {T : ZB} {Rd : ZB} {Fr : ZB} {Ac : ZA} {Ch : ZB} {PS : ZB} {Ly : ZB} {Pa : ZQ} {OT : ZB} {Ea : ZB} {Ga : ZB} {Im0 : ZO} {Im1 : ZO} {a1 : Int} {a2 : Int} {r : Int × ZB} (h : fCh_traded N Ch a1 a2 = some r) : zMi l yX1_traded cX1_traded 6 (some .int) zrCh_traded g [.ref (g.2.2 62), .int (zI a1), .int (zI a2)] (wX g X N T Rd Fr Ac Ch PS Ly Pa OT Ea Ga Im0 Im1) (wX g X N T Rd Fr Ac r.2 PS Ly Pa OT Ea Ga Im0 Im1) (zI r.1) := by
  unfold fCh_traded at h
  refine zMi_q (own := RX1) rfl (by decide +kernel) (Nat.le_of_ble_eq_true rfl) (lv := [(0, .ref (g.2.2 62)), (1, .int (zI a1)), (2, .int (zI a2))]) rfl ⟨rfl, rfl⟩ ?_
  intro p e s m args below meth c A Q hQ cx
  refine z_aload_n cx d_X1_traded_0 1 rfl rfl 0 rfl ?_
  refine z_get cx d_X1_traded_1 4 rfl e_Ch rfl zX1 0 (by decide) q_365 rfl rfl ?_
  refine z_get cx d_X1_traded_4 7 rfl e_N rfl zX5 3 (by decide) q_166 rfl rfl ?_
  refine z_iload_n cx d_X1_traded_7 8 rfl rfl 1 rfl ?_
  refine y_ialdx cx d_X1_traded_8 9 rfl e_N_home (by decide) h (fun x_1 h => ?_)
  refine y_istore_n cx d_X1_traded_9 10 rfl rfl (by decide) (lv' := [(3, .int (zI x_1)), (0, .ref (g.2.2 62)), (1, .int (zI a1)), (2, .int (zI a2))]) rfl ?_
  refine z_iload_n cx d_X1_traded_10 11 rfl rfl 0 rfl ?_
  refine y_iconst cx d_X1_traded_11 12 rfl ?_
  refine kf0_f (P := V p l e zrCh_traded s m args below meth c A s.heap g 6 Q (wX g X N T Rd Fr Ac Ch PS Ly Pa OT Ea Ga Im0 Im1) 0 0 [] 36 []) h (fun h => ?_) (fun k_2 hk_2 h => ?_)
  · refine y_iconst cx d_X1_traded_36 37 rfl ?_
    subst hQ
    obtain rfl := Option.some.inj h
    exact z_iret cx d_X1_traded_37 rfl rfl
  refine y_icmp_eq cx d_X1_traded_12 15 rfl 36 (by decide) rfl (nm_eq (x := (-1)) (by decide) (by decide)) h (fun h => ?_) (fun h => ?_)
  · refine z_sub [] rfl ?_
    exact hk_2  h
  · refine z_iload_n cx d_X1_traded_15 16 rfl rfl 0 rfl ?_
    refine z_iload_n cx d_X1_traded_16 17 rfl rfl 3 rfl ?_
    refine y_icmp_eq cx d_X1_traded_17 20 rfl 36 (by decide) rfl rfl h (fun h => ?_) (fun h => ?_)
    · refine z_sub [] rfl ?_
      exact hk_2  h
    · refine z_aload_n cx d_X1_traded_20 21 rfl rfl 1 rfl ?_
      refine z_iload_n cx d_X1_traded_21 22 rfl rfl 0 rfl ?_
      refine y_callV_i (As := [.int (zI x_1)]) (rest := []) (W := fun u_3 => wX g X N T Rd Fr Ac Ch PS Ly Pa OT Ea Ga Im0 Im1) (rf := fun u_3 => zI u_3) (rm := zrCh_isTree) cx (fun _ hq => tCh_isTree hq) d_X1_traded_22 25 rfl kk_X1_isTree q_863 q_865 q_18 rfl e_Ch rfl ⟨rfl, rfl⟩ ⟨Nat.le_of_ble_eq_true rfl, Nat.le_of_ble_eq_true rfl⟩ rfl rfl (Nat.le_of_ble_eq_true rfl) ⟨Nat.zero_le _, Nat.zero_le _⟩ h (fun u_3 h => ?_)
      refine y_if_eq cx d_X1_traded_25 28 rfl 36 (by decide) rfl h (fun h => ?_) (fun h => ?_)
      · refine z_sub [] rfl ?_
        exact hk_2  h
      · refine z_aload_n cx d_X1_traded_28 29 rfl rfl 1 rfl ?_
        refine z_iload_n cx d_X1_traded_29 30 rfl rfl 3 rfl ?_
        refine y_callV_i (As := [.int (zI a2)]) (rest := []) (W := fun u_4 => wX g X N T Rd Fr Ac Ch PS Ly Pa OT Ea Ga Im0 Im1) (rf := fun u_4 => zI u_4) (rm := zrCh_isTree) cx (fun _ hq => tCh_isTree hq) d_X1_traded_30 33 rfl kk_X1_isTree q_863 q_865 q_18 rfl e_Ch rfl ⟨rfl, rfl⟩ ⟨Nat.le_of_ble_eq_true rfl, Nat.le_of_ble_eq_true rfl⟩ rfl rfl (Nat.le_of_ble_eq_true rfl) ⟨Nat.zero_le _, Nat.zero_le _⟩ h (fun u_4 h => ?_)
        refine y_if_ne cx d_X1_traded_33 36 rfl 38 (by decide) rfl h (fun h => ?_) (fun h => ?_)
        · refine z_aload_n cx d_X1_traded_38 39 rfl rfl 1 rfl ?_
          refine z_iload_n cx d_X1_traded_39 40 rfl rfl 2 rfl ?_
          refine z_iload_n cx d_X1_traded_40 41 rfl rfl 3 rfl ?_
          refine y_callV_i (As := [.int (zI a1), .int (zI a2)]) (rest := []) (W := fun u_5 => wX g X N T Rd Fr Ac u_5.2 PS Ly Pa OT Ea Ga Im0 Im1) (rf := fun u_5 => zI u_5.1) (rm := zrCh_ringOf) cx (fun _ hq => tCh_ringOf hq) d_X1_traded_41 44 rfl kk_X1_ringOf q_812 q_785 q_786 rfl e_Ch rfl ⟨rfl, rfl⟩ ⟨Nat.le_of_ble_eq_true rfl, Nat.le_of_ble_eq_true rfl⟩ rfl rfl (Nat.le_of_ble_eq_true rfl) ⟨Nat.zero_le _, Nat.zero_le _⟩ h (fun u_5 h => ?_)
          refine y_istore cx d_X1_traded_44 46 rfl (by decide) (lv' := [(4, .int (zI u_5.1)), (3, .int (zI x_1)), (0, .ref (g.2.2 62)), (1, .int (zI a1)), (2, .int (zI a2))]) rfl ?_
          refine y_iconst cx d_X1_traded_46 47 rfl ?_
          refine y_istore cx d_X1_traded_47 49 rfl (by decide) (lv' := [(5, .int (zI 0)), (4, .int (zI u_5.1)), (3, .int (zI x_1)), (0, .ref (g.2.2 62)), (1, .int (zI a1)), (2, .int (zI a2))]) rfl ?_
          refine z_sub [3, 4, 2, 1, 0] rfl ?_
          refine lop2_f (P := fun (v5_6 : Int) (Ch_7 : ZB) => V p l e zrCh_traded s m args below meth c A s.heap g 6 Q (wX g X N T Rd Fr Ac Ch_7 PS Ly Pa OT Ea Ga Im0 Im1) 0 0 [(0, .ref (g.2.2 62)), (1, .int (zI a1)), (3, .int (zI x_1)), (4, .int (zI u_5.1)), (5, .int (zI v5_6))] 49 []) (fun rec_8 hrec_8 v5_6 Ch_7 h => ?_) _ _ _ h
          refine z_iload cx d_X1_traded_49 51 rfl 4 rfl ?_
          refine z_aload_n cx d_X1_traded_51 52 rfl rfl 0 rfl ?_
          refine z_get cx d_X1_traded_52 55 rfl e_Ch rfl zX1 0 (by decide) q_365 rfl rfl ?_
          refine z_get cx d_X1_traded_55 58 rfl e_N rfl zX5 5 (by decide) q_180 rfl rfl ?_
          refine y_icmp_ge cx d_X1_traded_58 61 rfl 94 (by decide) rfl rfl h (fun h => ?_) (fun h => ?_)
          · refine y_iconst cx d_X1_traded_94 95 rfl ?_
            subst hQ
            obtain rfl := Option.some.inj h
            exact z_iret cx d_X1_traded_95 rfl rfl
          · refine z_iload cx d_X1_traded_61 63 rfl 3 rfl ?_
            refine z_iload cx d_X1_traded_63 65 rfl 4 rfl ?_
            refine y_ishr cx d_X1_traded_65 66 rfl ?_
            refine y_iconst cx d_X1_traded_66 67 rfl ?_
            refine y_iand cx d_X1_traded_67 68 rfl ?_
            refine kf1_f (P := fun (Ch_9 : ZB) => V p l e zrCh_traded s m args below meth c A s.heap g 6 Q (wX g X N T Rd Fr Ac Ch_9 PS Ly Pa OT Ea Ga Im0 Im1) 0 0 [(0, .ref (g.2.2 62)), (1, .int (zI a1)), (3, .int (zI x_1)), (4, .int (zI u_5.1)), (5, .int (zI v5_6))] 88 []) h (fun Ch_9 h => ?_) (fun k_10 hk_10 h => ?_)
            · refine y_iinc cx 4 d_X1_traded_88 91 rfl rfl (by decide) (lv' := [(5, .int (zI (v5_6 + 1))), (0, .ref (g.2.2 62)), (1, .int (zI a1)), (3, .int (zI x_1)), (4, .int (zI u_5.1))]) rfl ?_
              refine z_goto cx d_X1_traded_91 49 (by decide) ?_
              refine z_sub [1, 2, 3, 4, 0] rfl ?_
              exact hrec_8 _ _ h
            refine y_if_eq cx d_X1_traded_68 71 rfl 88 (by decide) (nm_zand _ _) h (fun h => ?_) (fun h => ?_)
            · exact hk_10 _ h
            · refine z_aload_n cx d_X1_traded_71 72 rfl rfl 0 rfl ?_
              refine z_iload cx d_X1_traded_72 74 rfl 4 rfl ?_
              refine z_iload_n cx d_X1_traded_74 75 rfl rfl 2 rfl ?_
              refine y_callV_i (As := [.int (zI v5_6), .int (zI x_1)]) (rest := []) (W := fun u_11 => wX g X N T Rd Fr Ac u_11.2 PS Ly Pa OT Ea Ga Im0 Im1) (rf := fun u_11 => zI u_11.1) (rm := zrCh_ringOf) cx (fun _ hq => tCh_ringOf hq) d_X1_traded_75 78 rfl kk_X1_ringOf q_812 q_785 q_786 rfl e_Ch rfl ⟨rfl, rfl⟩ ⟨Nat.le_of_ble_eq_true rfl, Nat.le_of_ble_eq_true rfl⟩ rfl rfl (Nat.le_of_ble_eq_true rfl) ⟨Nat.zero_le _, Nat.zero_le _⟩ h (fun u_11 h => ?_)
              refine z_iload_n cx d_X1_traded_78 79 rfl rfl 1 rfl ?_
              refine y_ishr cx d_X1_traded_79 80 rfl ?_
              refine y_iconst cx d_X1_traded_80 81 rfl ?_
              refine y_iand cx d_X1_traded_81 82 rfl ?_
              refine y_if_eq cx d_X1_traded_82 85 rfl 88 (by decide) (nm_zand _ _) h (fun h => ?_) (fun h => ?_)
              · exact hk_10 _ h
              · refine z_iload cx d_X1_traded_85 87 rfl 4 rfl ?_
                subst hQ
                obtain rfl := Option.some.inj h
                exact z_iret cx d_X1_traded_87 rfl rfl
        · refine z_sub [] rfl ?_
          exact hk_2  h
set_option maxHeartbeats 4000000 in
theorem tCh_swap {l : Launch} {g : ZG} {X : ZB} {N : ZB} {T : ZB} {Rd : ZB} {Fr : ZB} {Ac : ZA} {Ch : ZB} {PS : ZB} {Ly : ZB} {Pa : ZQ} {OT : ZB} {Ea : ZB} {Ga : ZB} {Im0 : ZO} {Im1 : ZO} {a1 : Int} {a2 : Int} {r : ZB} (h : fCh_swap N a1 a2 = some r) : zMv l yX1_swap cX1_swap 4 none zr0 g [.ref (g.2.2 62), .int (zI a1), .int (zI a2)] (wX g X N T Rd Fr Ac Ch PS Ly Pa OT Ea Ga Im0 Im1) (wX g X r T Rd Fr Ac Ch PS Ly Pa OT Ea Ga Im0 Im1) := by
  unfold fCh_swap at h
  refine zMv_q (own := RX1) rfl (by decide +kernel) (Nat.le_of_ble_eq_true rfl) (lv := [(0, .ref (g.2.2 62)), (1, .int (zI a1)), (2, .int (zI a2))]) rfl ⟨rfl, rfl⟩ ?_
  intro p e s m args below meth c A Q hQ cx
  refine z_aload_n cx d_X1_swap_0 1 rfl rfl 0 rfl ?_
  refine z_get cx d_X1_swap_1 4 rfl e_Ch rfl zX1 0 (by decide) q_365 rfl rfl ?_
  refine z_get cx d_X1_swap_4 7 rfl e_N rfl zX5 3 (by decide) q_166 rfl rfl ?_
  refine z_iload_n cx d_X1_swap_7 8 rfl rfl 1 rfl ?_
  refine y_ialdx cx d_X1_swap_8 9 rfl e_N_home (by decide) h (fun x_1 h => ?_)
  refine y_istore_n cx d_X1_swap_9 10 rfl rfl (by decide) (lv' := [(3, .int (zI x_1)), (0, .ref (g.2.2 62)), (1, .int (zI a1)), (2, .int (zI a2))]) rfl ?_
  refine z_aload_n cx d_X1_swap_10 11 rfl rfl 1 rfl ?_
  refine z_get cx d_X1_swap_11 14 rfl e_Ch rfl zX1 0 (by decide) q_365 rfl rfl ?_
  refine z_get cx d_X1_swap_14 17 rfl e_N rfl zX5 3 (by decide) q_166 rfl rfl ?_
  refine z_iload_n cx d_X1_swap_17 18 rfl rfl 2 rfl ?_
  refine z_aload_n cx d_X1_swap_18 19 rfl rfl 1 rfl ?_
  refine z_get cx d_X1_swap_19 22 rfl e_Ch rfl zX1 0 (by decide) q_365 rfl rfl ?_
  refine z_get cx d_X1_swap_22 25 rfl e_N rfl zX5 3 (by decide) q_166 rfl rfl ?_
  refine z_iload_n cx d_X1_swap_25 26 rfl rfl 3 rfl ?_
  refine y_ialdx cx d_X1_swap_26 27 rfl e_N_home (by decide) h (fun x_2 h => ?_)
  refine y_iast cx d_X1_swap_27 28 rfl e_N_home (by decide) h (fun _ h9 => s_N_home h9) (fun N_3 h => ?_)
  refine z_aload_n cx d_X1_swap_28 29 rfl rfl 1 rfl ?_
  refine z_get cx d_X1_swap_29 32 rfl e_Ch rfl zX1 0 (by decide) q_365 rfl rfl ?_
  refine z_get cx d_X1_swap_32 35 rfl e_N rfl zX5 3 (by decide) q_166 rfl rfl ?_
  refine z_iload_n cx d_X1_swap_35 36 rfl rfl 3 rfl ?_
  refine z_iload_n cx d_X1_swap_36 37 rfl rfl 0 rfl ?_
  refine y_iast cx d_X1_swap_37 38 rfl e_N_home (by decide) h (fun _ h9 => s_N_home h9) (fun N_4 h => ?_)
  subst hQ
  obtain rfl := Option.some.inj h
  exact z_vret cx d_X1_swap_38 rfl
def zrEa_mostLoaded : Room := { frames := 2, cells := 0, slots := 0, locals := 44 }
set_option maxHeartbeats 4000000 in
theorem tEa_mostLoaded {l : Launch} {g : ZG} {X : ZB} {N : ZB} {T : ZB} {Rd : ZB} {Fr : ZB} {Ac : ZA} {Ch : ZB} {PS : ZB} {Ly : ZB} {Pa : ZQ} {OT : ZB} {Ea : ZB} {Ga : ZB} {Im0 : ZO} {Im1 : ZO}  {r : Int} (h : fEa_mostLoaded N = some r) : zMi l yX2_mostLoaded cX2_mostLoaded 3 (some .int) zrEa_mostLoaded g [.ref (g.2.2 84)] (wX g X N T Rd Fr Ac Ch PS Ly Pa OT Ea Ga Im0 Im1) (wX g X N T Rd Fr Ac Ch PS Ly Pa OT Ea Ga Im0 Im1) (zI r) := by
  unfold fEa_mostLoaded at h
  refine zMi_q (own := RX2) rfl (by decide +kernel) (Nat.le_of_ble_eq_true rfl) (lv := [(0, .ref (g.2.2 84))]) rfl ⟨rfl, rfl⟩ ?_
  intro p e s m args below meth c A Q hQ cx
  refine y_iconst cx d_X2_mostLoaded_0 1 rfl ?_
  refine y_istore_n cx d_X2_mostLoaded_1 2 rfl rfl (by decide) (lv' := [(1, .int (zI 0)), (0, .ref (g.2.2 84))]) rfl ?_
  refine y_iconst cx d_X2_mostLoaded_2 3 rfl ?_
  refine y_istore_n cx d_X2_mostLoaded_3 4 rfl rfl (by decide) (lv' := [(2, .int (zI 1)), (1, .int (zI 0)), (0, .ref (g.2.2 84))]) rfl ?_
  refine z_sub [2, 1, 0] rfl ?_
  refine lop2_f (P := fun (v1_1 : Int) (v2_2 : Int) => V p l e zrEa_mostLoaded s m args below meth c A s.heap g 3 Q (wX g X N T Rd Fr Ac Ch PS Ly Pa OT Ea Ga Im0 Im1) 0 0 [(0, .ref (g.2.2 84)), (1, .int (zI v1_1)), (2, .int (zI v2_2))] 4 []) (fun rec_3 hrec_3 v1_1 v2_2 h => ?_) _ _ _ h
  refine z_iload_n cx d_X2_mostLoaded_4 5 rfl rfl 2 rfl ?_
  refine z_aload_n cx d_X2_mostLoaded_5 6 rfl rfl 0 rfl ?_
  refine z_get cx d_X2_mostLoaded_6 9 rfl e_Ea rfl zX2 0 (by decide) q_499 rfl rfl ?_
  refine z_get cx d_X2_mostLoaded_9 12 rfl e_N rfl zX5 4 (by decide) q_169 rfl rfl ?_
  refine y_icmp_ge cx d_X2_mostLoaded_12 15 rfl 42 (by decide) rfl rfl h (fun h => ?_) (fun h => ?_)
  · refine z_iload_n cx d_X2_mostLoaded_42 43 rfl rfl 1 rfl ?_
    subst hQ
    obtain rfl := Option.some.inj h
    exact z_iret cx d_X2_mostLoaded_43 rfl rfl
  · refine z_aload_n cx d_X2_mostLoaded_15 16 rfl rfl 0 rfl ?_
    refine z_get cx d_X2_mostLoaded_16 19 rfl e_Ea rfl zX2 0 (by decide) q_499 rfl rfl ?_
    refine z_iload_n cx d_X2_mostLoaded_19 20 rfl rfl 2 rfl ?_
    refine y_callV_i (As := [.int (zI v2_2)]) (rest := []) (W := fun u_4 => wX g X N T Rd Fr Ac Ch PS Ly Pa OT Ea Ga Im0 Im1) (rf := fun u_4 => zI u_4) (rm := zrN_loadOf) cx (fun _ hq => tN_loadOf hq) d_X2_mostLoaded_20 23 rfl kk_X5_loadOf q_927 q_910 q_911 rfl e_N rfl ⟨rfl, rfl⟩ ⟨Nat.le_of_ble_eq_true rfl, Nat.le_of_ble_eq_true rfl⟩ rfl rfl (Nat.le_of_ble_eq_true rfl) ⟨Nat.zero_le _, Nat.zero_le _⟩ h (fun u_4 h => ?_)
    refine z_aload_n cx d_X2_mostLoaded_23 24 rfl rfl 0 rfl ?_
    refine z_get cx d_X2_mostLoaded_24 27 rfl e_Ea rfl zX2 0 (by decide) q_499 rfl rfl ?_
    refine z_iload_n cx d_X2_mostLoaded_27 28 rfl rfl 1 rfl ?_
    refine y_callV_i (As := [.int (zI v1_1)]) (rest := [.int (zI u_4)]) (W := fun u_5 => wX g X N T Rd Fr Ac Ch PS Ly Pa OT Ea Ga Im0 Im1) (rf := fun u_5 => zI u_5) (rm := zrN_loadOf) cx (fun _ hq => tN_loadOf hq) d_X2_mostLoaded_28 31 rfl kk_X5_loadOf q_927 q_910 q_911 rfl e_N rfl ⟨rfl, rfl⟩ ⟨Nat.le_of_ble_eq_true rfl, Nat.le_of_ble_eq_true rfl⟩ rfl rfl (Nat.le_of_ble_eq_true rfl) ⟨Nat.zero_le _, Nat.zero_le _⟩ h (fun u_5 h => ?_)
    refine kf1_f (P := fun (v1_6 : Int) => V p l e zrEa_mostLoaded s m args below meth c A s.heap g 3 Q (wX g X N T Rd Fr Ac Ch PS Ly Pa OT Ea Ga Im0 Im1) 0 0 [(0, .ref (g.2.2 84)), (1, .int (zI v1_6)), (2, .int (zI v2_2))] 36 []) h (fun v1_6 h => ?_) (fun k_7 hk_7 h => ?_)
    · refine y_iinc cx 2 d_X2_mostLoaded_36 39 rfl rfl (by decide) (lv' := [(2, .int (zI (v2_2 + 1))), (0, .ref (g.2.2 84)), (1, .int (zI v1_6))]) rfl ?_
      refine z_goto cx d_X2_mostLoaded_39 4 (by decide) ?_
      refine z_sub [1, 2, 0] rfl ?_
      exact hrec_3 _ _ h
    refine y_icmp_le cx d_X2_mostLoaded_31 34 rfl 36 (by decide) rfl rfl h (fun h => ?_) (fun h => ?_)
    · exact hk_7 _ h
    · refine z_iload_n cx d_X2_mostLoaded_34 35 rfl rfl 2 rfl ?_
      refine y_istore_n cx d_X2_mostLoaded_35 36 rfl rfl (by decide) (lv' := [(1, .int (zI v2_2)), (0, .ref (g.2.2 84)), (2, .int (zI v2_2))]) rfl ?_
      refine z_sub [1, 0, 2] rfl ?_
      exact hk_7 _ h
def zrEa_findWay : Room := { frames := 3, cells := 0, slots := 0, locals := 66 }
set_option maxHeartbeats 4000000 in
theorem tEa_findWay {l : Launch} {g : ZG} {X : ZB} {N : ZB} {T : ZB} {Rd : ZB} {Fr : ZB} {Ac : ZA} {Ch : ZB} {PS : ZB} {Ly : ZB} {Pa : ZQ} {OT : ZB} {Ea : ZB} {Ga : ZB} {Im0 : ZO} {Im1 : ZO}  {r : Int × ZB} (h : fEa_findWay N Ea = some r) : zMi l yX2_findWay cX2_findWay 9 (some .int) zrEa_findWay g [.ref (g.2.2 84)] (wX g X N T Rd Fr Ac Ch PS Ly Pa OT Ea Ga Im0 Im1) (wX g X N T Rd Fr Ac Ch PS Ly Pa OT r.2 Ga Im0 Im1) (zI r.1) := by
  unfold fEa_findWay at h
  refine zMi_q (own := RX2) rfl (by decide +kernel) (Nat.le_of_ble_eq_true rfl) (lv := [(0, .ref (g.2.2 84))]) rfl ⟨rfl, rfl⟩ ?_
  intro p e s m args below meth c A Q hQ cx
  refine z_aload_n cx d_X2_findWay_0 1 rfl rfl 0 rfl ?_
  refine z_get cx d_X2_findWay_1 4 rfl e_Ea rfl zX2 0 (by decide) q_499 rfl rfl ?_
  refine z_get cx d_X2_findWay_4 7 rfl e_N rfl zX5 4 (by decide) q_169 rfl rfl ?_
  refine y_if_ne cx d_X2_findWay_7 10 rfl 12 (by decide) rfl h (fun h => ?_) (fun h => ?_)
  · refine z_aload_n cx d_X2_findWay_12 13 rfl rfl 0 rfl ?_
    refine y_callV_i (As := []) (rest := []) (W := fun u_1 => wX g X N T Rd Fr Ac Ch PS Ly Pa OT Ea Ga Im0 Im1) (rf := fun u_1 => zI u_1) (rm := zrEa_mostLoaded) cx (fun _ hq => tEa_mostLoaded hq) d_X2_findWay_13 16 rfl kk_X2_mostLoaded q_923 q_925 q_19 rfl e_Ea rfl ⟨rfl, rfl⟩ ⟨Nat.le_of_ble_eq_true rfl, Nat.le_of_ble_eq_true rfl⟩ rfl rfl (Nat.le_of_ble_eq_true rfl) ⟨Nat.zero_le _, Nat.zero_le _⟩ h (fun u_1 h => ?_)
    refine y_istore_n cx d_X2_findWay_16 17 rfl rfl (by decide) (lv' := [(1, .int (zI u_1)), (0, .ref (g.2.2 84))]) rfl ?_
    refine z_aload_n cx d_X2_findWay_17 18 rfl rfl 1 rfl ?_
    refine z_get cx d_X2_findWay_18 21 rfl e_Ea rfl zX2 0 (by decide) q_499 rfl rfl ?_
    refine z_iload_n cx d_X2_findWay_21 22 rfl rfl 0 rfl ?_
    refine y_callV_i (As := [.int (zI u_1)]) (rest := []) (W := fun u_2 => wX g X N T Rd Fr Ac Ch PS Ly Pa OT Ea Ga Im0 Im1) (rf := fun u_2 => zI u_2) (rm := zrN_loadOf) cx (fun _ hq => tN_loadOf hq) d_X2_findWay_22 25 rfl kk_X5_loadOf q_927 q_910 q_911 rfl e_N rfl ⟨rfl, rfl⟩ ⟨Nat.le_of_ble_eq_true rfl, Nat.le_of_ble_eq_true rfl⟩ rfl rfl (Nat.le_of_ble_eq_true rfl) ⟨Nat.zero_le _, Nat.zero_le _⟩ h (fun u_2 h => ?_)
    refine y_iconst cx d_X2_findWay_25 26 rfl ?_
    refine y_isub cx d_X2_findWay_26 27 rfl ?_
    refine y_istore_n_b cx d_X2_findWay_27 28 rfl rfl (by decide) (fun y => [(2, .int (zI y)), (1, .int (zI u_1)), (0, .ref (g.2.2 84))]) (fun y => rfl) h (fun v2_3 h => ?_)
    refine y_iconst cx d_X2_findWay_28 29 rfl ?_
    refine z_iload_n cx d_X2_findWay_29 30 rfl rfl 1 rfl ?_
    refine y_ishl cx d_X2_findWay_30 31 rfl ?_
    refine y_istore_n_b cx d_X2_findWay_31 32 rfl rfl (by decide) (fun y => [(3, .int (zI y)), (2, .int (zI v2_3)), (1, .int (zI u_1)), (0, .ref (g.2.2 84))]) (fun y => rfl) h (fun v3_4 h => ?_)
    refine z_aload_n cx d_X2_findWay_32 33 rfl rfl 3 rfl ?_
    refine z_get cx d_X2_findWay_33 36 rfl e_Ea rfl zX2 1 (by decide) q_500 rfl rfl ?_
    refine y_iconst cx d_X2_findWay_36 37 rfl ?_
    refine z_iload_n cx d_X2_findWay_37 38 rfl rfl 2 rfl ?_
    refine y_iast cx d_X2_findWay_38 39 rfl e_Ea_queue (by decide) h (fun _ h9 => s_Ea_queue h9) (fun Ea_5 h => ?_)
    refine z_aload_n cx d_X2_findWay_39 40 rfl rfl 3 rfl ?_
    refine z_get cx d_X2_findWay_40 43 rfl e_Ea rfl zX2 2 (by decide) q_501 rfl rfl ?_
    refine z_iload_n cx d_X2_findWay_43 44 rfl rfl 2 rfl ?_
    refine y_iconst cx d_X2_findWay_44 45 rfl ?_
    refine y_iast cx d_X2_findWay_45 46 rfl e_Ea_wayTo (by decide) h (fun _ h9 => s_Ea_wayTo h9) (fun Ea_6 h => ?_)
    refine y_iconst cx d_X2_findWay_46 47 rfl ?_
    refine y_istore cx d_X2_findWay_47 49 rfl (by decide) (lv' := [(4, .int (zI 1)), (3, .int (zI v3_4)), (2, .int (zI v2_3)), (1, .int (zI u_1)), (0, .ref (g.2.2 84))]) rfl ?_
    refine y_iconst cx d_X2_findWay_49 50 rfl ?_
    refine y_istore cx d_X2_findWay_50 52 rfl (by decide) (lv' := [(5, .int (zI 0)), (4, .int (zI 1)), (3, .int (zI v3_4)), (2, .int (zI v2_3)), (1, .int (zI u_1)), (0, .ref (g.2.2 84))]) rfl ?_
    refine z_sub [5, 3, 2, 1, 0] rfl ?_
    refine lop4_f (P := fun (v3_7 : Int) (v4_8 : Int) (v5_9 : Int) (Ea_10 : ZB) => V p l e zrEa_findWay s m args below meth c A s.heap g 9 Q (wX g X N T Rd Fr Ac Ch PS Ly Pa OT Ea_10 Ga Im0 Im1) 0 0 [(0, .ref (g.2.2 84)), (2, .int (zI v2_3)), (3, .int (zI v3_7)), (4, .int (zI v4_8)), (5, .int (zI v5_9))] 52 []) (fun rec_11 hrec_11 v3_7 v4_8 v5_9 Ea_10 h => ?_) _ _ _ _ _ h
    refine z_iload cx d_X2_findWay_52 54 rfl 4 rfl ?_
    refine z_iload cx d_X2_findWay_54 56 rfl 3 rfl ?_
    refine kf0_f (P := V p l e zrEa_findWay s m args below meth c A s.heap g 9 Q (wX g X N T Rd Fr Ac Ch PS Ly Pa OT Ea_10 Ga Im0 Im1) 0 0 [] 214 []) h (fun h => ?_) (fun k_12 hk_12 h => ?_)
    · refine y_iconst cx d_X2_findWay_214 215 rfl ?_
      subst hQ
      obtain rfl := Option.some.inj h
      exact z_iret cx d_X2_findWay_215 rfl rfl
    refine y_icmp_ge cx d_X2_findWay_56 59 rfl 214 (by decide) rfl rfl h (fun h => ?_) (fun h => ?_)
    · refine z_sub [] rfl ?_
      exact hk_12  h
    · refine z_iload cx d_X2_findWay_59 61 rfl 4 rfl ?_
      refine y_bipush cx d_X2_findWay_61 63 rfl (by decide) ?_
      refine y_icmp_ge cx d_X2_findWay_63 66 rfl 214 (by decide) rfl (nm_eq (x := 10) (by decide) (by decide)) h (fun h => ?_) (fun h => ?_)
      · refine z_sub [] rfl ?_
        exact hk_12  h
      · refine z_aload_n cx d_X2_findWay_66 67 rfl rfl 0 rfl ?_
        refine z_get cx d_X2_findWay_67 70 rfl e_Ea rfl zX2 1 (by decide) q_500 rfl rfl ?_
        refine z_iload cx d_X2_findWay_70 72 rfl 4 rfl ?_
        refine y_ialdx cx d_X2_findWay_72 73 rfl e_Ea_queue (by decide) h (fun x_13 h => ?_)
        refine y_istore cx d_X2_findWay_73 75 rfl (by decide) (lv' := [(6, .int (zI x_13)), (0, .ref (g.2.2 84)), (2, .int (zI v2_3)), (3, .int (zI v3_7)), (4, .int (zI v4_8)), (5, .int (zI v5_9))]) rfl ?_
        refine z_aload_n cx d_X2_findWay_75 76 rfl rfl 1 rfl ?_
        refine z_get cx d_X2_findWay_76 79 rfl e_Ea rfl zX2 0 (by decide) q_499 rfl rfl ?_
        refine z_iload cx d_X2_findWay_79 81 rfl 0 rfl ?_
        refine y_callV_i (As := [.int (zI x_13)]) (rest := []) (W := fun u_14 => wX g X N T Rd Fr Ac Ch PS Ly Pa OT Ea_10 Ga Im0 Im1) (rf := fun u_14 => zI u_14) (rm := zrN_loadOf) cx (fun _ hq => tN_loadOf hq) d_X2_findWay_81 84 rfl kk_X5_loadOf q_927 q_910 q_911 rfl e_N rfl ⟨rfl, rfl⟩ ⟨Nat.le_of_ble_eq_true rfl, Nat.le_of_ble_eq_true rfl⟩ rfl rfl (Nat.le_of_ble_eq_true rfl) ⟨Nat.zero_le _, Nat.zero_le _⟩ h (fun u_14 h => ?_)
        refine z_iload_n cx d_X2_findWay_84 85 rfl rfl 2 rfl ?_
        refine y_icmp_gt cx d_X2_findWay_85 88 rfl 96 (by decide) rfl rfl h (fun h => ?_) (fun h => ?_)
        · refine y_iconst cx d_X2_findWay_96 97 rfl ?_
          refine y_istore cx d_X2_findWay_97 99 rfl (by decide) (lv' := [(7, .int (zI 0)), (6, .int (zI x_13)), (0, .ref (g.2.2 84)), (2, .int (zI v2_3)), (3, .int (zI v3_7)), (4, .int (zI v4_8)), (5, .int (zI v5_9))]) rfl ?_
          refine z_sub [2, 3, 4, 5, 6, 1, 0] rfl ?_
          refine lop4_f (P := fun (v3_15 : Int) (v4_16 : Int) (v7_17 : Int) (Ea_18 : ZB) => V p l e zrEa_findWay s m args below meth c A s.heap g 9 Q (wX g X N T Rd Fr Ac Ch PS Ly Pa OT Ea_18 Ga Im0 Im1) 0 0 [(0, .ref (g.2.2 84)), (2, .int (zI v2_3)), (3, .int (zI v3_15)), (4, .int (zI v4_16)), (5, .int (zI v5_9)), (6, .int (zI x_13)), (7, .int (zI v7_17))] 99 []) (fun rec_19 hrec_19 v3_15 v4_16 v7_17 Ea_18 h => ?_) _ _ _ _ _ h
          refine z_iload cx d_X2_findWay_99 101 rfl 6 rfl ?_
          refine z_aload_n cx d_X2_findWay_101 102 rfl rfl 0 rfl ?_
          refine z_get cx d_X2_findWay_102 105 rfl e_Ea rfl zX2 0 (by decide) q_499 rfl rfl ?_
          refine z_get cx d_X2_findWay_105 108 rfl e_N rfl zX5 5 (by decide) q_182 rfl rfl ?_
          refine kf0_f (P := V p l e zrEa_findWay s m args below meth c A s.heap g 9 Q (wX g X N T Rd Fr Ac Ch PS Ly Pa OT Ea_18 Ga Im0 Im1) 0 0 [(0, .ref (g.2.2 84)), (2, .int (zI v2_3)), (3, .int (zI v3_15)), (4, .int (zI v4_16)), (5, .int (zI v5_9))] 208 []) h (fun h => ?_) (fun k_20 hk_20 h => ?_)
          · refine y_iinc cx 4 d_X2_findWay_208 211 rfl rfl (by decide) (lv' := [(5, .int (zI (v5_9 + 1))), (0, .ref (g.2.2 84)), (2, .int (zI v2_3)), (3, .int (zI v3_15)), (4, .int (zI v4_16))]) rfl ?_
            refine z_goto cx d_X2_findWay_211 52 (by decide) ?_
            refine z_sub [1, 2, 3, 4, 0] rfl ?_
            exact hrec_11 _ _ _ _ h
          refine y_icmp_ge cx d_X2_findWay_108 111 rfl 208 (by decide) rfl rfl h (fun h => ?_) (fun h => ?_)
          · refine z_sub [0, 1, 2, 3, 4] rfl ?_
            exact hk_20  h
          · refine z_iload cx d_X2_findWay_111 113 rfl 3 rfl ?_
            refine y_bipush cx d_X2_findWay_113 115 rfl (by decide) ?_
            refine y_icmp_ge cx d_X2_findWay_115 118 rfl 208 (by decide) rfl (nm_eq (x := 10) (by decide) (by decide)) h (fun h => ?_) (fun h => ?_)
            · refine z_sub [0, 1, 2, 3, 4] rfl ?_
              exact hk_20  h
            · refine z_aload_n cx d_X2_findWay_118 119 rfl rfl 0 rfl ?_
              refine z_get cx d_X2_findWay_119 122 rfl e_Ea rfl zX2 0 (by decide) q_499 rfl rfl ?_
              refine z_iload cx d_X2_findWay_122 124 rfl 6 rfl ?_
              refine y_callV_i (As := [.int (zI v7_17)]) (rest := []) (W := fun u_21 => wX g X N T Rd Fr Ac Ch PS Ly Pa OT Ea_18 Ga Im0 Im1) (rf := fun u_21 => zI u_21) (rm := zr0) cx (fun _ hq => tN_head hq) d_X2_findWay_124 127 rfl kk_X5_head q_928 q_929 q_930 rfl e_N rfl ⟨rfl, rfl⟩ ⟨Nat.le_of_ble_eq_true rfl, Nat.le_of_ble_eq_true rfl⟩ rfl rfl (Nat.le_of_ble_eq_true rfl) ⟨Nat.zero_le _, Nat.zero_le _⟩ h (fun u_21 h => ?_)
              refine y_istore cx d_X2_findWay_127 129 rfl (by decide) (lv' := [(8, .int (zI u_21)), (0, .ref (g.2.2 84)), (2, .int (zI v2_3)), (3, .int (zI v3_15)), (4, .int (zI v4_16)), (5, .int (zI v5_9)), (6, .int (zI x_13)), (7, .int (zI v7_17))]) rfl ?_
              refine z_aload_n cx d_X2_findWay_129 130 rfl rfl 1 rfl ?_
              refine z_get cx d_X2_findWay_130 133 rfl e_Ea rfl zX2 0 (by decide) q_499 rfl rfl ?_
              refine z_iload cx d_X2_findWay_133 135 rfl 7 rfl ?_
              refine y_callV_i (As := [.int (zI v7_17)]) (rest := []) (W := fun u_22 => wX g X N T Rd Fr Ac Ch PS Ly Pa OT Ea_18 Ga Im0 Im1) (rf := fun u_22 => zI u_22) (rm := zr0) cx (fun _ hq => tN_isSound hq) d_X2_findWay_135 138 rfl kk_X5_isSound q_932 q_781 q_782 rfl e_N rfl ⟨rfl, rfl⟩ ⟨Nat.le_of_ble_eq_true rfl, Nat.le_of_ble_eq_true rfl⟩ rfl rfl (Nat.le_of_ble_eq_true rfl) ⟨Nat.zero_le _, Nat.zero_le _⟩ h (fun u_22 h => ?_)
              refine kf3_f (P := fun (v3_23 : Int) (v4_24 : Int) (Ea_25 : ZB) => V p l e zrEa_findWay s m args below meth c A s.heap g 9 Q (wX g X N T Rd Fr Ac Ch PS Ly Pa OT Ea_25 Ga Im0 Im1) 0 0 [(0, .ref (g.2.2 84)), (2, .int (zI v2_3)), (3, .int (zI v3_23)), (4, .int (zI v4_24)), (5, .int (zI v5_9)), (6, .int (zI x_13)), (7, .int (zI v7_17))] 202 []) h (fun v3_23 v4_24 Ea_25 h => ?_) (fun k_26 hk_26 h => ?_)
              · refine y_iinc cx 6 d_X2_findWay_202 205 rfl rfl (by decide) (lv' := [(7, .int (zI (v7_17 + 1))), (0, .ref (g.2.2 84)), (2, .int (zI v2_3)), (3, .int (zI v3_23)), (4, .int (zI v4_24)), (5, .int (zI v5_9)), (6, .int (zI x_13))]) rfl ?_
                refine z_goto cx d_X2_findWay_205 99 (by decide) ?_
                refine z_sub [1, 2, 3, 4, 5, 6, 0] rfl ?_
                exact hrec_19 _ _ _ _ h
              refine y_if_eq cx d_X2_findWay_138 141 rfl 202 (by decide) rfl h (fun h => ?_) (fun h => ?_)
              · refine z_sub [1, 2, 3, 4, 5, 6, 7] rfl ?_
                exact hk_26 _ _ _ h
              · refine z_aload_n cx d_X2_findWay_141 142 rfl rfl 1 rfl ?_
                refine z_get cx d_X2_findWay_142 145 rfl e_Ea rfl zX2 0 (by decide) q_499 rfl rfl ?_
                refine z_iload cx d_X2_findWay_145 147 rfl 7 rfl ?_
                refine y_callV_i (As := [.int (zI v7_17)]) (rest := []) (W := fun u_27 => wX g X N T Rd Fr Ac Ch PS Ly Pa OT Ea_18 Ga Im0 Im1) (rf := fun u_27 => zI u_27) (rm := zr0) cx (fun _ hq => tN_tail hq) d_X2_findWay_147 150 rfl kk_X5_tail q_933 q_902 q_903 rfl e_N rfl ⟨rfl, rfl⟩ ⟨Nat.le_of_ble_eq_true rfl, Nat.le_of_ble_eq_true rfl⟩ rfl rfl (Nat.le_of_ble_eq_true rfl) ⟨Nat.zero_le _, Nat.zero_le _⟩ h (fun u_27 h => ?_)
                refine z_iload cx d_X2_findWay_150 152 rfl 6 rfl ?_
                refine y_icmp_ne cx d_X2_findWay_152 155 rfl 202 (by decide) rfl rfl h (fun h => ?_) (fun h => ?_)
                · refine z_sub [1, 2, 3, 4, 5, 6, 7] rfl ?_
                  exact hk_26 _ _ _ h
                · refine z_iload_n cx d_X2_findWay_155 156 rfl rfl 3 rfl ?_
                  refine z_iload cx d_X2_findWay_156 158 rfl 0 rfl ?_
                  refine y_ishr cx d_X2_findWay_158 159 rfl ?_
                  refine y_iconst cx d_X2_findWay_159 160 rfl ?_
                  refine y_iand cx d_X2_findWay_160 161 rfl ?_
                  refine y_if_ne cx d_X2_findWay_161 164 rfl 202 (by decide) (nm_zand _ _) h (fun h => ?_) (fun h => ?_)
                  · refine z_sub [1, 2, 3, 4, 5, 6, 7] rfl ?_
                    exact hk_26 _ _ _ h
                  · refine z_iload_n cx d_X2_findWay_164 165 rfl rfl 3 rfl ?_
                    refine y_iconst cx d_X2_findWay_165 166 rfl ?_
                    refine z_iload cx d_X2_findWay_166 168 rfl 0 rfl ?_
                    refine y_ishl cx d_X2_findWay_168 169 rfl ?_
                    refine y_ior cx d_X2_findWay_169 170 rfl ?_
                    refine y_istore_n_b cx d_X2_findWay_170 171 rfl rfl (by decide) (fun y => [(3, .int (zI y)), (8, .int (zI u_21)), (0, .ref (g.2.2 84)), (2, .int (zI v2_3)), (4, .int (zI v4_16)), (5, .int (zI v5_9)), (6, .int (zI x_13)), (7, .int (zI v7_17))]) (fun y => rfl) h (fun v3_28 h => ?_)
                    refine z_aload_n cx d_X2_findWay_171 172 rfl rfl 2 rfl ?_
                    refine z_get cx d_X2_findWay_172 175 rfl e_Ea rfl zX2 2 (by decide) q_501 rfl rfl ?_
                    refine z_iload cx d_X2_findWay_175 177 rfl 1 rfl ?_
                    refine z_aload_n cx d_X2_findWay_177 178 rfl rfl 2 rfl ?_
                    refine z_get cx d_X2_findWay_178 181 rfl e_Ea rfl zX2 2 (by decide) q_501 rfl rfl ?_
                    refine z_iload cx d_X2_findWay_181 183 rfl 6 rfl ?_
                    refine y_ialdx cx d_X2_findWay_183 184 rfl e_Ea_wayTo (by decide) h (fun x_29 h => ?_)
                    refine y_iconst cx d_X2_findWay_184 185 rfl ?_
                    refine z_iload cx d_X2_findWay_185 187 rfl 7 rfl ?_
                    refine y_ishl cx d_X2_findWay_187 188 rfl ?_
                    refine y_ior cx d_X2_findWay_188 189 rfl ?_
                    refine y_iast cx d_X2_findWay_189 190 rfl e_Ea_wayTo (by decide) h (fun _ h9 => s_Ea_wayTo h9) (fun Ea_30 h => ?_)
                    refine z_aload_n cx d_X2_findWay_190 191 rfl rfl 2 rfl ?_
                    refine z_get cx d_X2_findWay_191 194 rfl e_Ea rfl zX2 1 (by decide) q_500 rfl rfl ?_
                    refine z_iload cx d_X2_findWay_194 196 rfl 4 rfl ?_
                    refine z_iload cx d_X2_findWay_196 198 rfl 1 rfl ?_
                    refine y_iast cx d_X2_findWay_198 199 rfl e_Ea_queue (by decide) h (fun _ h9 => s_Ea_queue h9) (fun Ea_31 h => ?_)
                    refine y_iinc cx 4 d_X2_findWay_199 202 rfl rfl (by decide) (lv' := [(4, .int (zI (v4_16 + 1))), (3, .int (zI v3_28)), (8, .int (zI u_21)), (0, .ref (g.2.2 84)), (2, .int (zI v2_3)), (5, .int (zI v5_9)), (6, .int (zI x_13)), (7, .int (zI v7_17))]) rfl ?_
                    refine z_sub [3, 4, 1, 0, 5, 6, 7] rfl ?_
                    exact hk_26 _ _ _ h
        · refine z_aload_n cx d_X2_findWay_88 89 rfl rfl 1 rfl ?_
          refine z_get cx d_X2_findWay_89 92 rfl e_Ea rfl zX2 2 (by decide) q_501 rfl rfl ?_
          refine z_iload cx d_X2_findWay_92 94 rfl 0 rfl ?_
          refine y_ialdx cx d_X2_findWay_94 95 rfl e_Ea_wayTo (by decide) h (fun x_32 h => ?_)
          subst hQ
          obtain rfl := Option.some.inj h
          exact z_iret cx d_X2_findWay_95 rfl rfl
  · refine y_iconst cx d_X2_findWay_10 11 rfl ?_
    subst hQ
    obtain rfl := Option.some.inj h
    exact z_iret cx d_X2_findWay_11 rfl rfl
set_option maxHeartbeats 4000000 in
theorem tGa_firstAcross {l : Launch} {g : ZG} {X : ZB} {N : ZB} {T : ZB} {Rd : ZB} {Fr : ZB} {Ac : ZA} {Ch : ZB} {PS : ZB} {Ly : ZB} {Pa : ZQ} {OT : ZB} {Ea : ZB} {Ga : ZB} {Im0 : ZO} {Im1 : ZO} {a1 : Int} {a2 : Int} {r : Int} (h : fGa_firstAcross N a1 a2 = some r) : zMi l yX3_firstAcross cX3_firstAcross 5 (some .int) zr0 g [.ref (g.2.2 87), .int (zI a1), .int (zI a2)] (wX g X N T Rd Fr Ac Ch PS Ly Pa OT Ea Ga Im0 Im1) (wX g X N T Rd Fr Ac Ch PS Ly Pa OT Ea Ga Im0 Im1) (zI r) := by
  unfold fGa_firstAcross at h
  refine zMi_q (own := RX3) rfl (by decide +kernel) (Nat.le_of_ble_eq_true rfl) (lv := [(0, .ref (g.2.2 87)), (1, .int (zI a1)), (2, .int (zI a2))]) rfl ⟨rfl, rfl⟩ ?_
  intro p e s m args below meth c A Q hQ cx
  refine y_iconst cx d_X3_firstAcross_0 1 rfl ?_
  refine y_istore_n cx d_X3_firstAcross_1 2 rfl rfl (by decide) (lv' := [(3, .int (zI 0)), (0, .ref (g.2.2 87)), (1, .int (zI a1)), (2, .int (zI a2))]) rfl ?_
  refine z_sub [1, 2, 3, 0] rfl ?_
  refine lop1_f (P := fun (v3_1 : Int) => V p l e zr0 s m args below meth c A s.heap g 5 Q (wX g X N T Rd Fr Ac Ch PS Ly Pa OT Ea Ga Im0 Im1) 0 0 [(0, .ref (g.2.2 87)), (1, .int (zI a1)), (2, .int (zI a2)), (3, .int (zI v3_1))] 2 []) (fun rec_2 hrec_2 v3_1 h => ?_) _ _ h
  refine z_iload_n cx d_X3_firstAcross_2 3 rfl rfl 3 rfl ?_
  refine z_aload_n cx d_X3_firstAcross_3 4 rfl rfl 0 rfl ?_
  refine z_get cx d_X3_firstAcross_4 7 rfl e_Ga rfl zX3 0 (by decide) q_515 rfl rfl ?_
  refine z_get cx d_X3_firstAcross_7 10 rfl e_N rfl zX5 5 (by decide) q_183 rfl rfl ?_
  refine y_icmp_ge cx d_X3_firstAcross_10 13 rfl 70 (by decide) rfl rfl h (fun h => ?_) (fun h => ?_)
  · refine y_iconst cx d_X3_firstAcross_70 71 rfl ?_
    subst hQ
    obtain rfl := Option.some.inj h
    exact z_iret cx d_X3_firstAcross_71 rfl rfl
  · refine z_iload_n cx d_X3_firstAcross_13 14 rfl rfl 2 rfl ?_
    refine z_aload_n cx d_X3_firstAcross_14 15 rfl rfl 0 rfl ?_
    refine z_get cx d_X3_firstAcross_15 18 rfl e_Ga rfl zX3 0 (by decide) q_515 rfl rfl ?_
    refine z_get cx d_X3_firstAcross_18 21 rfl e_N rfl zX5 0 (by decide) q_152 rfl rfl ?_
    refine z_iload_n cx d_X3_firstAcross_21 22 rfl rfl 3 rfl ?_
    refine y_ialdx cx d_X3_firstAcross_22 23 rfl e_N_first (by decide) h (fun x_3 h => ?_)
    refine y_ishr cx d_X3_firstAcross_23 24 rfl ?_
    refine y_iconst cx d_X3_firstAcross_24 25 rfl ?_
    refine y_iand cx d_X3_firstAcross_25 26 rfl ?_
    refine z_iload_n cx d_X3_firstAcross_26 27 rfl rfl 2 rfl ?_
    refine z_aload_n cx d_X3_firstAcross_27 28 rfl rfl 0 rfl ?_
    refine z_get cx d_X3_firstAcross_28 31 rfl e_Ga rfl zX3 0 (by decide) q_515 rfl rfl ?_
    refine z_get cx d_X3_firstAcross_31 34 rfl e_N rfl zX5 1 (by decide) q_158 rfl rfl ?_
    refine z_iload_n cx d_X3_firstAcross_34 35 rfl rfl 3 rfl ?_
    refine y_ialdx cx d_X3_firstAcross_35 36 rfl e_N_second (by decide) h (fun x_4 h => ?_)
    refine y_ishr cx d_X3_firstAcross_36 37 rfl ?_
    refine y_iconst cx d_X3_firstAcross_37 38 rfl ?_
    refine y_iand cx d_X3_firstAcross_38 39 rfl ?_
    refine kf1_f (P := fun (w0_5 : Int) => V p l e zr0 s m args below meth c A s.heap g 5 Q (wX g X N T Rd Fr Ac Ch PS Ly Pa OT Ea Ga Im0 Im1) 0 0 [(0, .ref (g.2.2 87)), (1, .int (zI a1)), (2, .int (zI a2)), (3, .int (zI v3_1))] 47 [.int (zI w0_5)]) h (fun w0_5 h => ?_) (fun k_6 hk_6 h => ?_)
    · refine y_istore cx d_X3_firstAcross_47 49 rfl (by decide) (lv' := [(4, .int (zI w0_5)), (0, .ref (g.2.2 87)), (1, .int (zI a1)), (2, .int (zI a2)), (3, .int (zI v3_1))]) rfl ?_
      refine z_iload_n cx d_X3_firstAcross_49 50 rfl rfl 2 rfl ?_
      refine z_iload_n cx d_X3_firstAcross_50 51 rfl rfl 4 rfl ?_
      refine y_ishr cx d_X3_firstAcross_51 52 rfl ?_
      refine y_iconst cx d_X3_firstAcross_52 53 rfl ?_
      refine y_iand cx d_X3_firstAcross_53 54 rfl ?_
      refine kf0_f (P := V p l e zr0 s m args below meth c A s.heap g 5 Q (wX g X N T Rd Fr Ac Ch PS Ly Pa OT Ea Ga Im0 Im1) 0 0 [(0, .ref (g.2.2 87)), (1, .int (zI a1)), (2, .int (zI a2)), (3, .int (zI v3_1))] 64 []) h (fun h => ?_) (fun k_7 hk_7 h => ?_)
      · refine y_iinc cx 3 d_X3_firstAcross_64 67 rfl rfl (by decide) (lv' := [(3, .int (zI (v3_1 + 1))), (0, .ref (g.2.2 87)), (1, .int (zI a1)), (2, .int (zI a2))]) rfl ?_
        refine z_goto cx d_X3_firstAcross_67 2 (by decide) ?_
        refine z_sub [1, 2, 3, 0] rfl ?_
        exact hrec_2 _ h
      refine y_if_eq cx d_X3_firstAcross_54 57 rfl 64 (by decide) (nm_zand _ _) h (fun h => ?_) (fun h => ?_)
      · refine z_sub [1, 2, 3, 4] rfl ?_
        exact hk_7  h
      · refine z_iload cx d_X3_firstAcross_57 59 rfl 0 rfl ?_
        refine y_if_eq cx d_X3_firstAcross_59 62 rfl 64 (by decide) rfl h (fun h => ?_) (fun h => ?_)
        · refine z_sub [1, 2, 3, 4] rfl ?_
          exact hk_7  h
        · refine z_iload_n cx d_X3_firstAcross_62 63 rfl rfl 4 rfl ?_
          subst hQ
          obtain rfl := Option.some.inj h
          exact z_iret cx d_X3_firstAcross_63 rfl rfl
    refine y_icmp_eq cx d_X3_firstAcross_39 42 rfl 46 (by decide) (nm_zand _ _) (nm_zand _ _) h (fun h => ?_) (fun h => ?_)
    · refine y_iconst cx d_X3_firstAcross_46 47 rfl ?_
      exact hk_6 _ h
    · refine y_iconst cx d_X3_firstAcross_42 43 rfl ?_
      refine z_goto cx d_X3_firstAcross_43 47 (by decide) ?_
      exact hk_6 _ h
def zrGa_cutLine : Room := { frames := 2, cells := 0, slots := 0, locals := 47 }
set_option maxHeartbeats 4000000 in
theorem tGa_cutLine {l : Launch} {g : ZG} {X : ZB} {N : ZB} {T : ZB} {Rd : ZB} {Fr : ZB} {Ac : ZA} {Ch : ZB} {PS : ZB} {Ly : ZB} {Pa : ZQ} {OT : ZB} {Ea : ZB} {Ga : ZB} {Im0 : ZO} {Im1 : ZO} {a1 : Int} {r : Int × ZB} (h : fGa_cutLine N Ga a1 = some r) : zMi l yX3_cutLine cX3_cutLine 5 (some .boolean) zrGa_cutLine g [.ref (g.2.2 87), .int (zI a1)] (wX g X N T Rd Fr Ac Ch PS Ly Pa OT Ea Ga Im0 Im1) (wX g X N T Rd Fr Ac Ch PS Ly Pa OT Ea r.2 Im0 Im1) (zI r.1) := by
  unfold fGa_cutLine at h
  refine zMi_q (own := RX3) rfl (by decide +kernel) (Nat.le_of_ble_eq_true rfl) (lv := [(0, .ref (g.2.2 87)), (1, .int (zI a1))]) rfl ⟨rfl, rfl⟩ ?_
  intro p e s m args below meth c A Q hQ cx
  refine z_aload_n cx d_X3_cutLine_0 1 rfl rfl 0 rfl ?_
  refine z_get cx d_X3_cutLine_1 4 rfl e_Ga rfl zX3 0 (by decide) q_515 rfl rfl ?_
  refine z_iload_n cx d_X3_cutLine_4 5 rfl rfl 1 rfl ?_
  refine y_callV_i (As := [.int (zI a1)]) (rest := []) (W := fun u_1 => wX g X N T Rd Fr Ac Ch PS Ly Pa OT Ea Ga Im0 Im1) (rf := fun u_1 => zI u_1) (rm := zr0) cx (fun _ hq => tN_hasLine hq) d_X3_cutLine_5 8 rfl kk_X5_hasLine q_950 q_773 q_774 rfl e_N rfl ⟨rfl, rfl⟩ ⟨Nat.le_of_ble_eq_true rfl, Nat.le_of_ble_eq_true rfl⟩ rfl rfl (Nat.le_of_ble_eq_true rfl) ⟨Nat.zero_le _, Nat.zero_le _⟩ h (fun u_1 h => ?_)
  refine kf0_f (P := V p l e zrGa_cutLine s m args below meth c A s.heap g 5 Q (wX g X N T Rd Fr Ac Ch PS Ly Pa OT Ea Ga Im0 Im1) 0 0 [] 36 []) h (fun h => ?_) (fun k_2 hk_2 h => ?_)
  · refine y_iconst cx d_X3_cutLine_36 37 rfl ?_
    subst hQ
    obtain rfl := Option.some.inj h
    exact z_zret cx d_X3_cutLine_37 (zb01 (by decide)) rfl rfl
  refine y_if_eq cx d_X3_cutLine_8 11 rfl 36 (by decide) rfl h (fun h => ?_) (fun h => ?_)
  · refine z_sub [] rfl ?_
    exact hk_2  h
  · refine z_aload_n cx d_X3_cutLine_11 12 rfl rfl 0 rfl ?_
    refine z_get cx d_X3_cutLine_12 15 rfl e_Ga rfl zX3 0 (by decide) q_515 rfl rfl ?_
    refine z_get cx d_X3_cutLine_15 18 rfl e_N rfl zX5 3 (by decide) q_167 rfl rfl ?_
    refine z_iload_n cx d_X3_cutLine_18 19 rfl rfl 1 rfl ?_
    refine y_ialdx cx d_X3_cutLine_19 20 rfl e_N_home (by decide) h (fun x_3 h => ?_)
    refine y_if_lt cx d_X3_cutLine_20 23 rfl 36 (by decide) rfl h (fun h => ?_) (fun h => ?_)
    · refine z_sub [] rfl ?_
      exact hk_2  h
    · refine z_aload_n cx d_X3_cutLine_23 24 rfl rfl 0 rfl ?_
      refine z_get cx d_X3_cutLine_24 27 rfl e_Ga rfl zX3 0 (by decide) q_515 rfl rfl ?_
      refine z_get cx d_X3_cutLine_27 30 rfl e_N rfl zX5 3 (by decide) q_167 rfl rfl ?_
      refine z_iload_n cx d_X3_cutLine_30 31 rfl rfl 1 rfl ?_
      refine y_ialdx cx d_X3_cutLine_31 32 rfl e_N_home (by decide) h (fun x_4 h => ?_)
      refine y_iconst cx d_X3_cutLine_32 33 rfl ?_
      refine y_icmp_le cx d_X3_cutLine_33 36 rfl 38 (by decide) rfl (nm_eq (x := 1) (by decide) (by decide)) h (fun h => ?_) (fun h => ?_)
      · refine z_aload_n cx d_X3_cutLine_38 39 rfl rfl 0 rfl ?_
        refine z_get cx d_X3_cutLine_39 42 rfl e_Ga rfl zX3 5 (by decide) q_520 rfl rfl ?_
        refine z_aload_n cx d_X3_cutLine_42 43 rfl rfl 0 rfl ?_
        refine z_get cx d_X3_cutLine_43 46 rfl e_Ga rfl zX3 6 (by decide) q_521 rfl rfl ?_
        refine y_ior cx d_X3_cutLine_46 47 rfl ?_
        refine z_iload_n cx d_X3_cutLine_47 48 rfl rfl 1 rfl ?_
        refine y_ishr cx d_X3_cutLine_48 49 rfl ?_
        refine y_iconst cx d_X3_cutLine_49 50 rfl ?_
        refine y_iand cx d_X3_cutLine_50 51 rfl ?_
        refine y_if_eq cx d_X3_cutLine_51 54 rfl 56 (by decide) (nm_zand _ _) h (fun h => ?_) (fun h => ?_)
        · refine z_aload_n cx d_X3_cutLine_56 57 rfl rfl 0 rfl ?_
          refine z_get cx d_X3_cutLine_57 60 rfl e_Ga rfl zX3 0 (by decide) q_515 rfl rfl ?_
          refine z_get cx d_X3_cutLine_60 63 rfl e_N rfl zX5 3 (by decide) q_167 rfl rfl ?_
          refine z_iload_n cx d_X3_cutLine_63 64 rfl rfl 1 rfl ?_
          refine y_ialdx cx d_X3_cutLine_64 65 rfl e_N_home (by decide) h (fun x_5 h => ?_)
          refine y_istore_n cx d_X3_cutLine_65 66 rfl rfl (by decide) (lv' := [(2, .int (zI x_5)), (0, .ref (g.2.2 87)), (1, .int (zI a1))]) rfl ?_
          refine z_aload_n cx d_X3_cutLine_66 67 rfl rfl 1 rfl ?_
          refine z_dup cx d_X3_cutLine_67 68 rfl rfl ?_
          refine z_get cx d_X3_cutLine_68 71 rfl e_Ga rfl zX3 5 (by decide) q_520 rfl rfl ?_
          refine y_iconst cx d_X3_cutLine_71 72 rfl ?_
          refine z_iload_n cx d_X3_cutLine_72 73 rfl rfl 2 rfl ?_
          refine y_ishl cx d_X3_cutLine_73 74 rfl ?_
          refine y_ior cx d_X3_cutLine_74 75 rfl ?_
          refine y_put cx d_X3_cutLine_75 78 rfl e_Ga rfl zX3 tyX3_ok nmX3 5 (by decide) q_520 rfl rfl rfl rfl (Nat.le_of_ble_eq_true rfl) h (fun _ h9 => s_Ga_5 h9) (fun Ga_6 h => ?_)
          refine z_aload_n cx d_X3_cutLine_78 79 rfl rfl 1 rfl ?_
          refine z_get cx d_X3_cutLine_79 82 rfl e_Ga rfl zX3 0 (by decide) q_515 rfl rfl ?_
          refine z_aload_n cx d_X3_cutLine_82 83 rfl rfl 1 rfl ?_
          refine z_get cx d_X3_cutLine_83 86 rfl e_Ga rfl zX3 0 (by decide) q_515 rfl rfl ?_
          refine z_get cx d_X3_cutLine_86 89 rfl e_N rfl zX5 0 (by decide) q_152 rfl rfl ?_
          refine z_iload_n cx d_X3_cutLine_89 90 rfl rfl 2 rfl ?_
          refine y_ialdx cx d_X3_cutLine_90 91 rfl e_N_first (by decide) h (fun x_7 h => ?_)
          refine z_aload_n cx d_X3_cutLine_91 92 rfl rfl 1 rfl ?_
          refine z_get cx d_X3_cutLine_92 95 rfl e_Ga rfl zX3 2 (by decide) q_517 rfl rfl ?_
          refine z_iload_n cx d_X3_cutLine_95 96 rfl rfl 0 rfl ?_
          refine y_ialdx cx d_X3_cutLine_96 97 rfl e_Ga_forest (by decide) h (fun x_8 h => ?_)
          refine z_aload_n cx d_X3_cutLine_97 98 rfl rfl 1 rfl ?_
          refine z_get cx d_X3_cutLine_98 101 rfl e_Ga rfl zX3 5 (by decide) q_520 rfl rfl ?_
          refine y_iconst cx d_X3_cutLine_101 102 rfl ?_
          refine y_ixor cx d_X3_cutLine_102 103 rfl ?_
          refine y_iand cx d_X3_cutLine_103 104 rfl ?_
          refine z_aload_n cx d_X3_cutLine_104 105 rfl rfl 1 rfl ?_
          refine z_get cx d_X3_cutLine_105 108 rfl e_Ga rfl zX3 6 (by decide) q_521 rfl rfl ?_
          refine y_ior cx d_X3_cutLine_108 109 rfl ?_
          refine y_callV_i (As := [.int (zI x_7), .int (zI (zor (zand x_8 (zxor (Ga_6.1 5) (-1))) (Ga_6.1 6)))]) (rest := []) (W := fun u_9 => wX g X N T Rd Fr Ac Ch PS Ly Pa OT Ea Ga_6 Im0 Im1) (rf := fun u_9 => zI u_9) (rm := zrN_reach) cx (fun _ hq => tN_reach hq) d_X3_cutLine_109 112 rfl kk_X5_reach q_951 q_757 q_758 rfl e_N rfl ⟨rfl, rfl⟩ ⟨Nat.le_of_ble_eq_true rfl, Nat.le_of_ble_eq_true rfl⟩ rfl rfl (Nat.le_of_ble_eq_true rfl) ⟨Nat.zero_le _, Nat.zero_le _⟩ h (fun u_9 h => ?_)
          refine y_istore_n cx d_X3_cutLine_112 113 rfl rfl (by decide) (lv' := [(3, .int (zI u_9)), (2, .int (zI x_5)), (0, .ref (g.2.2 87)), (1, .int (zI a1))]) rfl ?_
          refine z_aload_n cx d_X3_cutLine_113 114 rfl rfl 2 rfl ?_
          refine z_aload_n cx d_X3_cutLine_114 115 rfl rfl 2 rfl ?_
          refine z_get cx d_X3_cutLine_115 118 rfl e_Ga rfl zX3 2 (by decide) q_517 rfl rfl ?_
          refine y_iconst cx d_X3_cutLine_118 119 rfl ?_
          refine z_iload_n cx d_X3_cutLine_119 120 rfl rfl 1 rfl ?_
          refine y_isub cx d_X3_cutLine_120 121 rfl ?_
          refine y_ialdx cx d_X3_cutLine_121 122 rfl e_Ga_forest (by decide) h (fun x_10 h => ?_)
          refine z_aload_n cx d_X3_cutLine_122 123 rfl rfl 2 rfl ?_
          refine z_get cx d_X3_cutLine_123 126 rfl e_Ga rfl zX3 5 (by decide) q_520 rfl rfl ?_
          refine y_iconst cx d_X3_cutLine_126 127 rfl ?_
          refine y_ixor cx d_X3_cutLine_127 128 rfl ?_
          refine y_iand cx d_X3_cutLine_128 129 rfl ?_
          refine z_aload_n cx d_X3_cutLine_129 130 rfl rfl 2 rfl ?_
          refine z_get cx d_X3_cutLine_130 133 rfl e_Ga rfl zX3 6 (by decide) q_521 rfl rfl ?_
          refine y_iconst cx d_X3_cutLine_133 134 rfl ?_
          refine y_ixor cx d_X3_cutLine_134 135 rfl ?_
          refine y_iand cx d_X3_cutLine_135 136 rfl ?_
          refine z_iload_n cx d_X3_cutLine_136 137 rfl rfl 0 rfl ?_
          refine y_callV_i (As := [.int (zI (zand (zand x_10 (zxor (Ga_6.1 5) (-1))) (zxor (Ga_6.1 6) (-1)))), .int (zI u_9)]) (rest := []) (W := fun u_11 => wX g X N T Rd Fr Ac Ch PS Ly Pa OT Ea Ga_6 Im0 Im1) (rf := fun u_11 => zI u_11) (rm := zr0) cx (fun _ hq => tGa_firstAcross hq) d_X3_cutLine_137 140 rfl kk_X3_firstAcross q_952 q_954 q_21 rfl e_Ga rfl ⟨rfl, rfl⟩ ⟨Nat.le_of_ble_eq_true rfl, Nat.le_of_ble_eq_true rfl⟩ rfl rfl (Nat.le_of_ble_eq_true rfl) ⟨Nat.zero_le _, Nat.zero_le _⟩ h (fun u_11 h => ?_)
          refine y_istore cx d_X3_cutLine_140 142 rfl (by decide) (lv' := [(4, .int (zI u_11)), (3, .int (zI u_9)), (2, .int (zI x_5)), (0, .ref (g.2.2 87)), (1, .int (zI a1))]) rfl ?_
          refine z_aload_n cx d_X3_cutLine_142 143 rfl rfl 3 rfl ?_
          refine z_get cx d_X3_cutLine_143 146 rfl e_Ga rfl zX3 3 (by decide) q_518 rfl rfl ?_
          refine z_aload_n cx d_X3_cutLine_146 147 rfl rfl 3 rfl ?_
          refine z_get cx d_X3_cutLine_147 150 rfl e_Ga rfl zX3 4 (by decide) q_519 rfl rfl ?_
          refine z_iload cx d_X3_cutLine_150 152 rfl 0 rfl ?_
          refine y_iast cx d_X3_cutLine_152 153 rfl e_Ga_told (by decide) h (fun _ h9 => s_Ga_told h9) (fun Ga_12 h => ?_)
          refine z_aload_n cx d_X3_cutLine_153 154 rfl rfl 3 rfl ?_
          refine z_dup cx d_X3_cutLine_154 155 rfl rfl ?_
          refine z_get cx d_X3_cutLine_155 158 rfl e_Ga rfl zX3 4 (by decide) q_519 rfl rfl ?_
          refine y_iconst cx d_X3_cutLine_158 159 rfl ?_
          refine y_iadd cx d_X3_cutLine_159 160 rfl ?_
          refine y_put cx d_X3_cutLine_160 163 rfl e_Ga rfl zX3 tyX3_ok nmX3 4 (by decide) q_519 rfl rfl rfl rfl (Nat.le_of_ble_eq_true rfl) h (fun _ h9 => s_Ga_4 h9) (fun Ga_13 h => ?_)
          refine z_iload cx d_X3_cutLine_163 165 rfl 0 rfl ?_
          refine y_iconst cx d_X3_cutLine_165 166 rfl ?_
          refine kf1_f (P := fun (Ga_14 : ZB) => V p l e zrGa_cutLine s m args below meth c A s.heap g 5 Q (wX g X N T Rd Fr Ac Ch PS Ly Pa OT Ea Ga_14 Im0 Im1) 0 0 [] 182 []) h (fun Ga_14 h => ?_) (fun k_15 hk_15 h => ?_)
          · refine y_iconst cx d_X3_cutLine_182 183 rfl ?_
            subst hQ
            obtain rfl := Option.some.inj h
            exact z_zret cx d_X3_cutLine_183 (zb01 (by decide)) rfl rfl
          refine y_icmp_eq cx d_X3_cutLine_166 169 rfl 182 (by decide) rfl (nm_eq (x := (-1)) (by decide) (by decide)) h (fun h => ?_) (fun h => ?_)
          · refine z_sub [] rfl ?_
            exact hk_15 _ h
          · refine z_aload_n cx d_X3_cutLine_169 170 rfl rfl 3 rfl ?_
            refine z_dup cx d_X3_cutLine_170 171 rfl rfl ?_
            refine z_get cx d_X3_cutLine_171 174 rfl e_Ga rfl zX3 6 (by decide) q_521 rfl rfl ?_
            refine y_iconst cx d_X3_cutLine_174 175 rfl ?_
            refine z_iload cx d_X3_cutLine_175 177 rfl 0 rfl ?_
            refine y_ishl cx d_X3_cutLine_177 178 rfl ?_
            refine y_ior cx d_X3_cutLine_178 179 rfl ?_
            refine y_put cx d_X3_cutLine_179 182 rfl e_Ga rfl zX3 tyX3_ok nmX3 6 (by decide) q_521 rfl rfl rfl rfl (Nat.le_of_ble_eq_true rfl) h (fun _ h9 => s_Ga_6 h9) (fun Ga_16 h => ?_)
            refine z_sub [] rfl ?_
            exact hk_15 _ h
        · refine y_iconst cx d_X3_cutLine_54 55 rfl ?_
          subst hQ
          obtain rfl := Option.some.inj h
          exact z_zret cx d_X3_cutLine_55 (zb01 (by decide)) rfl rfl
      · refine z_sub [] rfl ?_
        exact hk_2  h
def zrGa_run : Room := { frames := 3, cells := 0, slots := 0, locals := 71 }
set_option maxHeartbeats 4000000 in
theorem tGa_run {l : Launch} {g : ZG} {X : ZB} {N : ZB} {T : ZB} {Rd : ZB} {Fr : ZB} {Ac : ZA} {Ch : ZB} {PS : ZB} {Ly : ZB} {Pa : ZQ} {OT : ZB} {Ea : ZB} {Ga : ZB} {Im0 : ZO} {Im1 : ZO}  {r : Int × ZB} (h : fGa_run N T Ga = some r) : zMi l yX3_run cX3_run 2 (some .int) zrGa_run g [.ref (g.2.2 87)] (wX g X N T Rd Fr Ac Ch PS Ly Pa OT Ea Ga Im0 Im1) (wX g X N T Rd Fr Ac Ch PS Ly Pa OT Ea r.2 Im0 Im1) (zI r.1) := by
  unfold fGa_run at h
  refine zMi_q (own := RX3) rfl (by decide +kernel) (Nat.le_of_ble_eq_true rfl) (lv := [(0, .ref (g.2.2 87))]) rfl ⟨rfl, rfl⟩ ?_
  intro p e s m args below meth c A Q hQ cx
  refine z_aload_n cx d_X3_run_0 1 rfl rfl 0 rfl ?_
  refine z_get cx d_X3_run_1 4 rfl e_Ga rfl zX3 0 (by decide) q_515 rfl rfl ?_
  refine z_get cx d_X3_run_4 7 rfl e_N rfl zX5 4 (by decide) q_170 rfl rfl ?_
  refine y_iconst cx d_X3_run_7 8 rfl ?_
  refine kf0_f (P := V p l e zrGa_run s m args below meth c A s.heap g 2 Q (wX g X N T Rd Fr Ac Ch PS Ly Pa OT Ea Ga Im0 Im1) 0 0 [] 22 []) h (fun h => ?_) (fun k_1 hk_1 h => ?_)
  · refine y_iconst cx d_X3_run_22 23 rfl ?_
    subst hQ
    obtain rfl := Option.some.inj h
    exact z_iret cx d_X3_run_23 rfl rfl
  refine y_icmp_lt cx d_X3_run_8 11 rfl 22 (by decide) rfl (nm_eq (x := 2) (by decide) (by decide)) h (fun h => ?_) (fun h => ?_)
  · refine z_sub [] rfl ?_
    exact hk_1  h
  · refine z_aload_n cx d_X3_run_11 12 rfl rfl 0 rfl ?_
    refine z_get cx d_X3_run_12 15 rfl e_Ga rfl zX3 0 (by decide) q_515 rfl rfl ?_
    refine z_get cx d_X3_run_15 18 rfl e_N rfl zX5 6 (by decide) q_189 rfl rfl ?_
    refine y_iconst cx d_X3_run_18 19 rfl ?_
    refine y_icmp_ge cx d_X3_run_19 22 rfl 24 (by decide) rfl (nm_eq (x := 2) (by decide) (by decide)) h (fun h => ?_) (fun h => ?_)
    · refine z_aload_n cx d_X3_run_24 25 rfl rfl 0 rfl ?_
      refine z_get cx d_X3_run_25 28 rfl e_Ga rfl zX3 2 (by decide) q_517 rfl rfl ?_
      refine y_iconst cx d_X3_run_28 29 rfl ?_
      refine z_aload_n cx d_X3_run_29 30 rfl rfl 0 rfl ?_
      refine z_get cx d_X3_run_30 33 rfl e_Ga rfl zX3 0 (by decide) q_515 rfl rfl ?_
      refine y_iconst cx d_X3_run_33 34 rfl ?_
      refine y_callV_i (As := [.int (zI 0)]) (rest := [.int (zI 0), .ref (g.2.2 88)]) (W := fun u_2 => wX g X N T Rd Fr Ac Ch PS Ly Pa OT Ea Ga Im0 Im1) (rf := fun u_2 => zI u_2) (rm := zr0) cx (fun _ hq => tN_forestSet hq) d_X3_run_34 37 rfl kk_X5_forestSet q_942 q_729 q_730 rfl e_N rfl ⟨rfl, rfl⟩ ⟨Nat.le_of_ble_eq_true rfl, Nat.le_of_ble_eq_true rfl⟩ rfl rfl (Nat.le_of_ble_eq_true rfl) ⟨Nat.zero_le _, Nat.zero_le _⟩ h (fun u_2 h => ?_)
      refine y_iast cx d_X3_run_37 38 rfl e_Ga_forest (by decide) h (fun _ h9 => s_Ga_forest h9) (fun Ga_3 h => ?_)
      refine z_aload_n cx d_X3_run_38 39 rfl rfl 0 rfl ?_
      refine z_get cx d_X3_run_39 42 rfl e_Ga rfl zX3 2 (by decide) q_517 rfl rfl ?_
      refine y_iconst cx d_X3_run_42 43 rfl ?_
      refine z_aload_n cx d_X3_run_43 44 rfl rfl 0 rfl ?_
      refine z_get cx d_X3_run_44 47 rfl e_Ga rfl zX3 0 (by decide) q_515 rfl rfl ?_
      refine y_iconst cx d_X3_run_47 48 rfl ?_
      refine y_callV_i (As := [.int (zI 1)]) (rest := [.int (zI 1), .ref (g.2.2 88)]) (W := fun u_4 => wX g X N T Rd Fr Ac Ch PS Ly Pa OT Ea Ga_3 Im0 Im1) (rf := fun u_4 => zI u_4) (rm := zr0) cx (fun _ hq => tN_forestSet hq) d_X3_run_48 51 rfl kk_X5_forestSet q_942 q_729 q_730 rfl e_N rfl ⟨rfl, rfl⟩ ⟨Nat.le_of_ble_eq_true rfl, Nat.le_of_ble_eq_true rfl⟩ rfl rfl (Nat.le_of_ble_eq_true rfl) ⟨Nat.zero_le _, Nat.zero_le _⟩ h (fun u_4 h => ?_)
      refine y_iast cx d_X3_run_51 52 rfl e_Ga_forest (by decide) h (fun _ h9 => s_Ga_forest h9) (fun Ga_5 h => ?_)
      refine z_aload_n cx d_X3_run_52 53 rfl rfl 0 rfl ?_
      refine z_get cx d_X3_run_53 56 rfl e_Ga rfl zX3 0 (by decide) q_515 rfl rfl ?_
      refine z_aload_n cx d_X3_run_56 57 rfl rfl 0 rfl ?_
      refine z_get cx d_X3_run_57 60 rfl e_Ga rfl zX3 2 (by decide) q_517 rfl rfl ?_
      refine y_iconst cx d_X3_run_60 61 rfl ?_
      refine y_ialdx cx d_X3_run_61 62 rfl e_Ga_forest (by decide) h (fun x_6 h => ?_)
      refine y_callV_i (As := [.int (zI x_6)]) (rest := []) (W := fun u_7 => wX g X N T Rd Fr Ac Ch PS Ly Pa OT Ea Ga_5 Im0 Im1) (rf := fun u_7 => zI u_7) (rm := zrN_pieces) cx (fun _ hq => tN_pieces hq) d_X3_run_62 65 rfl kk_X5_pieces q_943 q_753 q_754 rfl e_N rfl ⟨rfl, rfl⟩ ⟨Nat.le_of_ble_eq_true rfl, Nat.le_of_ble_eq_true rfl⟩ rfl rfl (Nat.le_of_ble_eq_true rfl) ⟨Nat.zero_le _, Nat.zero_le _⟩ h (fun u_7 h => ?_)
      refine y_iconst cx d_X3_run_65 66 rfl ?_
      refine kf0_f (P := V p l e zrGa_run s m args below meth c A s.heap g 2 Q (wX g X N T Rd Fr Ac Ch PS Ly Pa OT Ea Ga_5 Im0 Im1) 0 0 [] 86 []) h (fun h => ?_) (fun k_8 hk_8 h => ?_)
      · refine y_iconst cx d_X3_run_86 87 rfl ?_
        subst hQ
        obtain rfl := Option.some.inj h
        exact z_iret cx d_X3_run_87 rfl rfl
      refine y_icmp_ne cx d_X3_run_66 69 rfl 86 (by decide) rfl (nm_eq (x := 1) (by decide) (by decide)) h (fun h => ?_) (fun h => ?_)
      · refine z_sub [] rfl ?_
        exact hk_8  h
      · refine z_aload_n cx d_X3_run_69 70 rfl rfl 0 rfl ?_
        refine z_get cx d_X3_run_70 73 rfl e_Ga rfl zX3 0 (by decide) q_515 rfl rfl ?_
        refine z_aload_n cx d_X3_run_73 74 rfl rfl 0 rfl ?_
        refine z_get cx d_X3_run_74 77 rfl e_Ga rfl zX3 2 (by decide) q_517 rfl rfl ?_
        refine y_iconst cx d_X3_run_77 78 rfl ?_
        refine y_ialdx cx d_X3_run_78 79 rfl e_Ga_forest (by decide) h (fun x_9 h => ?_)
        refine y_callV_i (As := [.int (zI x_9)]) (rest := []) (W := fun u_10 => wX g X N T Rd Fr Ac Ch PS Ly Pa OT Ea Ga_5 Im0 Im1) (rf := fun u_10 => zI u_10) (rm := zrN_pieces) cx (fun _ hq => tN_pieces hq) d_X3_run_79 82 rfl kk_X5_pieces q_943 q_753 q_754 rfl e_N rfl ⟨rfl, rfl⟩ ⟨Nat.le_of_ble_eq_true rfl, Nat.le_of_ble_eq_true rfl⟩ rfl rfl (Nat.le_of_ble_eq_true rfl) ⟨Nat.zero_le _, Nat.zero_le _⟩ h (fun u_10 h => ?_)
        refine y_iconst cx d_X3_run_82 83 rfl ?_
        refine y_icmp_eq cx d_X3_run_83 86 rfl 88 (by decide) rfl (nm_eq (x := 1) (by decide) (by decide)) h (fun h => ?_) (fun h => ?_)
        · refine z_aload_n cx d_X3_run_88 89 rfl rfl 0 rfl ?_
          refine y_iconst cx d_X3_run_89 90 rfl ?_
          refine y_put cx d_X3_run_90 93 rfl e_Ga rfl zX3 tyX3_ok nmX3 5 (by decide) q_520 rfl rfl rfl rfl (Nat.le_of_ble_eq_true rfl) h (fun _ h9 => s_Ga_5 h9) (fun Ga_11 h => ?_)
          refine z_aload_n cx d_X3_run_93 94 rfl rfl 0 rfl ?_
          refine y_iconst cx d_X3_run_94 95 rfl ?_
          refine y_put cx d_X3_run_95 98 rfl e_Ga rfl zX3 tyX3_ok nmX3 6 (by decide) q_521 rfl rfl rfl rfl (Nat.le_of_ble_eq_true rfl) h (fun _ h9 => s_Ga_6 h9) (fun Ga_12 h => ?_)
          refine z_aload_n cx d_X3_run_98 99 rfl rfl 0 rfl ?_
          refine y_iconst cx d_X3_run_99 100 rfl ?_
          refine y_put cx d_X3_run_100 103 rfl e_Ga rfl zX3 tyX3_ok nmX3 4 (by decide) q_519 rfl rfl rfl rfl (Nat.le_of_ble_eq_true rfl) h (fun _ h9 => s_Ga_4 h9) (fun Ga_13 h => ?_)
          refine y_iconst cx d_X3_run_103 104 rfl ?_
          refine y_istore_n cx d_X3_run_104 105 rfl rfl (by decide) (lv' := [(1, .int (zI 0)), (0, .ref (g.2.2 87))]) rfl ?_
          refine z_sub [1, 0] rfl ?_
          refine lop2_f (P := fun (v1_14 : Int) (Ga_15 : ZB) => V p l e zrGa_run s m args below meth c A s.heap g 2 Q (wX g X N T Rd Fr Ac Ch PS Ly Pa OT Ea Ga_15 Im0 Im1) 0 0 [(0, .ref (g.2.2 87)), (1, .int (zI v1_14))] 105 []) (fun rec_16 hrec_16 v1_14 Ga_15 h => ?_) _ _ _ h
          refine z_iload_n cx d_X3_run_105 106 rfl rfl 1 rfl ?_
          refine z_aload_n cx d_X3_run_106 107 rfl rfl 0 rfl ?_
          refine z_get cx d_X3_run_107 110 rfl e_Ga rfl zX3 1 (by decide) q_516 rfl rfl ?_
          refine y_callV_i (As := []) (rest := [.int (zI v1_14)]) (W := fun u_17 => wX g X N T Rd Fr Ac Ch PS Ly Pa OT Ea Ga_15 Im0 Im1) (rf := fun u_17 => zI u_17) (rm := zr0) cx (fun _ hq => tT_size hq) d_X3_run_110 113 rfl kk_X10_size q_944 q_590 q_591 rfl e_T rfl ⟨rfl, rfl⟩ ⟨Nat.le_of_ble_eq_true rfl, Nat.le_of_ble_eq_true rfl⟩ rfl rfl (Nat.le_of_ble_eq_true rfl) ⟨Nat.zero_le _, Nat.zero_le _⟩ h (fun u_17 h => ?_)
          refine kf1_f (P := fun (Ga_18 : ZB) => V p l e zrGa_run s m args below meth c A s.heap g 2 Q (wX g X N T Rd Fr Ac Ch PS Ly Pa OT Ea Ga_18 Im0 Im1) 0 0 [(0, .ref (g.2.2 87))] 149 []) h (fun Ga_18 h => ?_) (fun k_19 hk_19 h => ?_)
          · refine z_aload_n cx d_X3_run_149 150 rfl rfl 0 rfl ?_
            refine z_get cx d_X3_run_150 153 rfl e_Ga rfl zX3 4 (by decide) q_519 rfl rfl ?_
            subst hQ
            obtain rfl := Option.some.inj h
            exact z_iret cx d_X3_run_153 rfl rfl
          refine y_icmp_ge cx d_X3_run_113 116 rfl 149 (by decide) rfl rfl h (fun h => ?_) (fun h => ?_)
          · refine z_sub [0] rfl ?_
            exact hk_19 _ h
          · refine z_aload_n cx d_X3_run_116 117 rfl rfl 0 rfl ?_
            refine z_get cx d_X3_run_117 120 rfl e_Ga rfl zX3 4 (by decide) q_519 rfl rfl ?_
            refine y_bipush cx d_X3_run_120 122 rfl (by decide) ?_
            refine y_icmp_ge cx d_X3_run_122 125 rfl 149 (by decide) rfl (nm_eq (x := 24) (by decide) (by decide)) h (fun h => ?_) (fun h => ?_)
            · refine z_sub [0] rfl ?_
              exact hk_19 _ h
            · refine z_aload_n cx d_X3_run_125 126 rfl rfl 0 rfl ?_
              refine z_aload_n cx d_X3_run_126 127 rfl rfl 0 rfl ?_
              refine z_get cx d_X3_run_127 130 rfl e_Ga rfl zX3 1 (by decide) q_516 rfl rfl ?_
              refine z_iload_n cx d_X3_run_130 131 rfl rfl 1 rfl ?_
              refine y_callV_i (As := [.int (zI v1_14)]) (rest := [.ref (g.2.2 87)]) (W := fun u_20 => wX g X N T Rd Fr Ac Ch PS Ly Pa OT Ea Ga_15 Im0 Im1) (rf := fun u_20 => zI u_20) (rm := zr0) cx (fun _ hq => tT_byteAt hq) d_X3_run_131 134 rfl kk_X10_byteAt q_945 q_622 q_623 rfl e_T rfl ⟨rfl, rfl⟩ ⟨Nat.le_of_ble_eq_true rfl, Nat.le_of_ble_eq_true rfl⟩ rfl rfl (Nat.le_of_ble_eq_true rfl) ⟨Nat.zero_le _, Nat.zero_le _⟩ h (fun u_20 h => ?_)
              refine y_callV_i (As := [.int (zI u_20)]) (rest := []) (W := fun u_21 => wX g X N T Rd Fr Ac Ch PS Ly Pa OT Ea u_21.2 Im0 Im1) (rf := fun u_21 => zI u_21.1) (rm := zrGa_cutLine) cx (fun _ hq => tGa_cutLine hq) d_X3_run_134 137 rfl kk_X3_cutLine q_946 q_948 q_20 rfl e_Ga rfl ⟨rfl, rfl⟩ ⟨Nat.le_of_ble_eq_true rfl, Nat.le_of_ble_eq_true rfl⟩ rfl rfl (Nat.le_of_ble_eq_true rfl) ⟨Nat.zero_le _, Nat.zero_le _⟩ h (fun u_21 h => ?_)
              refine y_if_ne cx d_X3_run_137 140 rfl 143 (by decide) rfl h (fun h => ?_) (fun h => ?_)
              · refine y_iinc cx 1 d_X3_run_143 146 rfl rfl (by decide) (lv' := [(1, .int (zI (v1_14 + 1))), (0, .ref (g.2.2 87))]) rfl ?_
                refine z_goto cx d_X3_run_146 105 (by decide) ?_
                refine z_sub [1, 0] rfl ?_
                exact hrec_16 _ _ h
              · refine z_goto cx d_X3_run_140 149 (by decide) ?_
                refine z_sub [0] rfl ?_
                exact hk_19 _ h
        · refine z_sub [] rfl ?_
          exact hk_8  h
    · refine z_sub [] rfl ?_
      exact hk_1  h
set_option maxHeartbeats 4000000 in
theorem tGa_toldAt {l : Launch} {g : ZG} {X : ZB} {N : ZB} {T : ZB} {Rd : ZB} {Fr : ZB} {Ac : ZA} {Ch : ZB} {PS : ZB} {Ly : ZB} {Pa : ZQ} {OT : ZB} {Ea : ZB} {Ga : ZB} {Im0 : ZO} {Im1 : ZO} {a1 : Int} {r : Int} (h : fGa_toldAt Ga a1 = some r) : zMi l yX3_toldAt cX3_toldAt 2 (some .int) zr0 g [.ref (g.2.2 87), .int (zI a1)] (wX g X N T Rd Fr Ac Ch PS Ly Pa OT Ea Ga Im0 Im1) (wX g X N T Rd Fr Ac Ch PS Ly Pa OT Ea Ga Im0 Im1) (zI r) := by
  unfold fGa_toldAt at h
  refine zMi_q (own := RX3) rfl (by decide +kernel) (Nat.le_of_ble_eq_true rfl) (lv := [(0, .ref (g.2.2 87)), (1, .int (zI a1))]) rfl ⟨rfl, rfl⟩ ?_
  intro p e s m args below meth c A Q hQ cx
  refine z_iload_n cx d_X3_toldAt_0 1 rfl rfl 1 rfl ?_
  refine kf1_f (P := fun (w0_1 : Int) => V p l e zr0 s m args below meth c A s.heap g 2 Q (wX g X N T Rd Fr Ac Ch PS Ly Pa OT Ea Ga Im0 Im1) 0 0 [] 22 [.int (zI w0_1)]) h (fun w0_1 h => ?_) (fun k_2 hk_2 h => ?_)
  · subst hQ
    obtain rfl := Option.some.inj h
    exact z_iret cx d_X3_toldAt_22 rfl rfl
  refine kf0_f (P := V p l e zr0 s m args below meth c A s.heap g 2 Q (wX g X N T Rd Fr Ac Ch PS Ly Pa OT Ea Ga Im0 Im1) 0 0 [] 12 []) h (fun h => ?_) (fun k_3 hk_3 h => ?_)
  · refine y_iconst cx d_X3_toldAt_12 13 rfl ?_
    refine z_goto cx d_X3_toldAt_13 22 (by decide) ?_
    exact hk_2 _ h
  refine y_if_lt cx d_X3_toldAt_1 4 rfl 12 (by decide) rfl h (fun h => ?_) (fun h => ?_)
  · refine z_sub [] rfl ?_
    exact hk_3  h
  · refine z_iload_n cx d_X3_toldAt_4 5 rfl rfl 1 rfl ?_
    refine z_aload_n cx d_X3_toldAt_5 6 rfl rfl 0 rfl ?_
    refine z_get cx d_X3_toldAt_6 9 rfl e_Ga rfl zX3 4 (by decide) q_519 rfl rfl ?_
    refine y_icmp_lt cx d_X3_toldAt_9 12 rfl 16 (by decide) rfl rfl h (fun h => ?_) (fun h => ?_)
    · refine z_aload_n cx d_X3_toldAt_16 17 rfl rfl 0 rfl ?_
      refine z_get cx d_X3_toldAt_17 20 rfl e_Ga rfl zX3 3 (by decide) q_518 rfl rfl ?_
      refine z_iload_n cx d_X3_toldAt_20 21 rfl rfl 1 rfl ?_
      refine y_ialdx cx d_X3_toldAt_21 22 rfl e_Ga_told (by decide) h (fun x_4 h => ?_)
      refine z_sub [] rfl ?_
      exact hk_2 _ h
    · refine z_sub [] rfl ?_
      exact hk_3  h
def zrOT_enters : Room := { frames := 1, cells := 0, slots := 0, locals := 21 }
set_option maxHeartbeats 4000000 in
theorem tOT_enters {l : Launch} {g : ZG} {X : ZB} {N : ZB} {T : ZB} {Rd : ZB} {Fr : ZB} {Ac : ZA} {Ch : ZB} {PS : ZB} {Ly : ZB} {Pa : ZQ} {OT : ZB} {Ea : ZB} {Ga : ZB} {Im0 : ZO} {Im1 : ZO} {a1 : Int} {a2 : Int} {r : Int} (h : fOT_enters N a1 a2 = some r) : zMi l yX6_enters cX6_enters 3 (some .boolean) zrOT_enters g [.ref (g.2.2 82), .int (zI a1), .int (zI a2)] (wX g X N T Rd Fr Ac Ch PS Ly Pa OT Ea Ga Im0 Im1) (wX g X N T Rd Fr Ac Ch PS Ly Pa OT Ea Ga Im0 Im1) (zI r) := by
  unfold fOT_enters at h
  refine zMi_q (own := RX6) rfl (by decide +kernel) (Nat.le_of_ble_eq_true rfl) (lv := [(0, .ref (g.2.2 82)), (1, .int (zI a1)), (2, .int (zI a2))]) rfl ⟨rfl, rfl⟩ ?_
  intro p e s m args below meth c A Q hQ cx
  refine z_iload_n cx d_X6_enters_0 1 rfl rfl 2 rfl ?_
  refine z_aload_n cx d_X6_enters_1 2 rfl rfl 0 rfl ?_
  refine z_get cx d_X6_enters_2 5 rfl e_OT rfl zX6 0 (by decide) q_486 rfl rfl ?_
  refine z_iload_n cx d_X6_enters_5 6 rfl rfl 1 rfl ?_
  refine y_callV_i (As := [.int (zI a1)]) (rest := [.int (zI a2)]) (W := fun u_1 => wX g X N T Rd Fr Ac Ch PS Ly Pa OT Ea Ga Im0 Im1) (rf := fun u_1 => zI u_1) (rm := zr0) cx (fun _ hq => tN_head hq) d_X6_enters_6 9 rfl kk_X5_head q_1123 q_929 q_930 rfl e_N rfl ⟨rfl, rfl⟩ ⟨Nat.le_of_ble_eq_true rfl, Nat.le_of_ble_eq_true rfl⟩ rfl rfl (Nat.le_of_ble_eq_true rfl) ⟨Nat.zero_le _, Nat.zero_le _⟩ h (fun u_1 h => ?_)
  refine y_ishr cx d_X6_enters_9 10 rfl ?_
  refine y_iconst cx d_X6_enters_10 11 rfl ?_
  refine y_iand cx d_X6_enters_11 12 rfl ?_
  refine kf1_f (P := fun (w0_2 : Int) => V p l e zrOT_enters s m args below meth c A s.heap g 3 Q (wX g X N T Rd Fr Ac Ch PS Ly Pa OT Ea Ga Im0 Im1) 0 0 [] 35 [.int (zI w0_2)]) h (fun w0_2 h => ?_) (fun k_3 hk_3 h => ?_)
  · obtain ⟨hz, h⟩ := zo_i h
    subst hQ
    obtain rfl := Option.some.inj h
    exact z_zret cx d_X6_enters_35 (zb01 hz) rfl rfl
  refine kf0_f (P := V p l e zrOT_enters s m args below meth c A s.heap g 3 Q (wX g X N T Rd Fr Ac Ch PS Ly Pa OT Ea Ga Im0 Im1) 0 0 [] 34 []) h (fun h => ?_) (fun k_4 hk_4 h => ?_)
  · refine y_iconst cx d_X6_enters_34 35 rfl ?_
    exact hk_3 _ h
  refine y_if_eq cx d_X6_enters_12 15 rfl 34 (by decide) (nm_zand _ _) h (fun h => ?_) (fun h => ?_)
  · refine z_sub [] rfl ?_
    exact hk_4  h
  · refine z_iload_n cx d_X6_enters_15 16 rfl rfl 2 rfl ?_
    refine z_aload_n cx d_X6_enters_16 17 rfl rfl 0 rfl ?_
    refine z_get cx d_X6_enters_17 20 rfl e_OT rfl zX6 0 (by decide) q_486 rfl rfl ?_
    refine z_iload_n cx d_X6_enters_20 21 rfl rfl 1 rfl ?_
    refine y_callV_i (As := [.int (zI a1)]) (rest := [.int (zI a2)]) (W := fun u_5 => wX g X N T Rd Fr Ac Ch PS Ly Pa OT Ea Ga Im0 Im1) (rf := fun u_5 => zI u_5) (rm := zr0) cx (fun _ hq => tN_tail hq) d_X6_enters_21 24 rfl kk_X5_tail q_1124 q_902 q_903 rfl e_N rfl ⟨rfl, rfl⟩ ⟨Nat.le_of_ble_eq_true rfl, Nat.le_of_ble_eq_true rfl⟩ rfl rfl (Nat.le_of_ble_eq_true rfl) ⟨Nat.zero_le _, Nat.zero_le _⟩ h (fun u_5 h => ?_)
    refine y_ishr cx d_X6_enters_24 25 rfl ?_
    refine y_iconst cx d_X6_enters_25 26 rfl ?_
    refine y_iand cx d_X6_enters_26 27 rfl ?_
    refine y_if_ne cx d_X6_enters_27 30 rfl 34 (by decide) (nm_zand _ _) h (fun h => ?_) (fun h => ?_)
    · refine z_sub [] rfl ?_
      exact hk_4  h
    · refine y_iconst cx d_X6_enters_30 31 rfl ?_
      refine z_goto cx d_X6_enters_31 35 (by decide) ?_
      refine z_sub [] rfl ?_
      exact hk_3 _ h
def zrOT_change : Room := { frames := 2, cells := 0, slots := 0, locals := 43 }
set_option maxHeartbeats 4000000 in
theorem tOT_change {l : Launch} {g : ZG} {X : ZB} {N : ZB} {T : ZB} {Rd : ZB} {Fr : ZB} {Ac : ZA} {Ch : ZB} {PS : ZB} {Ly : ZB} {Pa : ZQ} {OT : ZB} {Ea : ZB} {Ga : ZB} {Im0 : ZO} {Im1 : ZO} {a1 : Int} {a2 : Int} {r : ZB} (h : fOT_change N OT a1 a2 = some r) : zMv l yX6_change cX6_change 4 none zrOT_change g [.ref (g.2.2 82), .int (zI a1), .int (zI a2)] (wX g X N T Rd Fr Ac Ch PS Ly Pa OT Ea Ga Im0 Im1) (wX g X N T Rd Fr Ac Ch PS Ly Pa r Ea Ga Im0 Im1) := by
  unfold fOT_change at h
  refine zMv_q (own := RX6) rfl (by decide +kernel) (Nat.le_of_ble_eq_true rfl) (lv := [(0, .ref (g.2.2 82)), (1, .int (zI a1)), (2, .int (zI a2))]) rfl ⟨rfl, rfl⟩ ?_
  intro p e s m args below meth c A Q hQ cx
  refine y_iconst cx d_X6_change_0 1 rfl ?_
  refine y_istore_n cx d_X6_change_1 2 rfl rfl (by decide) (lv' := [(3, .int (zI 1)), (0, .ref (g.2.2 82)), (1, .int (zI a1)), (2, .int (zI a2))]) rfl ?_
  refine z_sub [1, 2, 3, 0] rfl ?_
  refine lop2_f (P := fun (v3_1 : Int) (OT_2 : ZB) => V p l e zrOT_change s m args below meth c A s.heap g 4 Q (wX g X N T Rd Fr Ac Ch PS Ly Pa OT_2 Ea Ga Im0 Im1) 0 0 [(0, .ref (g.2.2 82)), (1, .int (zI a1)), (2, .int (zI a2)), (3, .int (zI v3_1))] 2 []) (fun rec_3 hrec_3 v3_1 OT_2 h => ?_) _ _ _ h
  refine z_iload_n cx d_X6_change_2 3 rfl rfl 3 rfl ?_
  refine z_aload_n cx d_X6_change_3 4 rfl rfl 0 rfl ?_
  refine z_get cx d_X6_change_4 7 rfl e_OT rfl zX6 0 (by decide) q_486 rfl rfl ?_
  refine y_callV_i (As := []) (rest := [.int (zI v3_1)]) (W := fun u_4 => wX g X N T Rd Fr Ac Ch PS Ly Pa OT_2 Ea Ga Im0 Im1) (rf := fun u_4 => zI u_4) (rm := zr0) cx (fun _ hq => tN_allPoints hq) d_X6_change_7 10 rfl kk_X5_allPoints q_1113 q_985 q_986 rfl e_N rfl ⟨rfl, rfl⟩ ⟨Nat.le_of_ble_eq_true rfl, Nat.le_of_ble_eq_true rfl⟩ rfl rfl (Nat.le_of_ble_eq_true rfl) ⟨Nat.zero_le _, Nat.zero_le _⟩ h (fun u_4 h => ?_)
  refine y_icmp_gt cx d_X6_change_10 13 rfl 38 (by decide) rfl rfl h (fun h => ?_) (fun h => ?_)
  · subst hQ
    obtain rfl := Option.some.inj h
    exact z_vret cx d_X6_change_38 rfl
  · refine z_aload_n cx d_X6_change_13 14 rfl rfl 0 rfl ?_
    refine z_iload_n cx d_X6_change_14 15 rfl rfl 1 rfl ?_
    refine z_iload_n cx d_X6_change_15 16 rfl rfl 3 rfl ?_
    refine y_callV_i (As := [.int (zI a1), .int (zI v3_1)]) (rest := []) (W := fun u_5 => wX g X N T Rd Fr Ac Ch PS Ly Pa OT_2 Ea Ga Im0 Im1) (rf := fun u_5 => zI u_5) (rm := zrOT_enters) cx (fun _ hq => tOT_enters hq) d_X6_change_16 19 rfl kk_X6_enters q_1119 q_1121 q_30 rfl e_OT rfl ⟨rfl, rfl⟩ ⟨Nat.le_of_ble_eq_true rfl, Nat.le_of_ble_eq_true rfl⟩ rfl rfl (Nat.le_of_ble_eq_true rfl) ⟨Nat.zero_le _, Nat.zero_le _⟩ h (fun u_5 h => ?_)
    refine kf1_f (P := fun (OT_6 : ZB) => V p l e zrOT_change s m args below meth c A s.heap g 4 Q (wX g X N T Rd Fr Ac Ch PS Ly Pa OT_6 Ea Ga Im0 Im1) 0 0 [(0, .ref (g.2.2 82)), (1, .int (zI a1)), (2, .int (zI a2)), (3, .int (zI v3_1))] 32 []) h (fun OT_6 h => ?_) (fun k_7 hk_7 h => ?_)
    · refine y_iinc cx 3 d_X6_change_32 35 rfl rfl (by decide) (lv' := [(3, .int (zI (v3_1 + 1))), (0, .ref (g.2.2 82)), (1, .int (zI a1)), (2, .int (zI a2))]) rfl ?_
      refine z_goto cx d_X6_change_35 2 (by decide) ?_
      refine z_sub [1, 2, 3, 0] rfl ?_
      exact hrec_3 _ _ h
    refine y_if_eq cx d_X6_change_19 22 rfl 32 (by decide) rfl h (fun h => ?_) (fun h => ?_)
    · exact hk_7 _ h
    · refine z_aload_n cx d_X6_change_22 23 rfl rfl 0 rfl ?_
      refine z_get cx d_X6_change_23 26 rfl e_OT rfl zX6 1 (by decide) q_487 rfl rfl ?_
      refine z_iload_n cx d_X6_change_26 27 rfl rfl 3 rfl ?_
      refine z_dup2 cx d_X6_change_27 28 rfl rfl rfl ?_
      refine y_ialdx cx d_X6_change_28 29 rfl e_OT_entering (by decide) h (fun x_8 h => ?_)
      refine z_iload_n cx d_X6_change_29 30 rfl rfl 2 rfl ?_
      refine y_iadd cx d_X6_change_30 31 rfl ?_
      refine y_iast cx d_X6_change_31 32 rfl e_OT_entering (by decide) h (fun _ h9 => s_OT_entering h9) (fun OT_9 h => ?_)
      exact hk_7 _ h
def zrOT_countFrom : Room := { frames := 3, cells := 0, slots := 0, locals := 66 }
set_option maxHeartbeats 4000000 in
theorem tOT_countFrom {l : Launch} {g : ZG} {X : ZB} {N : ZB} {T : ZB} {Rd : ZB} {Fr : ZB} {Ac : ZA} {Ch : ZB} {PS : ZB} {Ly : ZB} {Pa : ZQ} {OT : ZB} {Ea : ZB} {Ga : ZB} {Im0 : ZO} {Im1 : ZO} {a1 : Int} {r : Int × ZB} (h : fOT_countFrom N OT a1 = some r) : zMi l yX6_countFrom cX6_countFrom 4 (some .int) zrOT_countFrom g [.ref (g.2.2 82), .int (zI a1)] (wX g X N T Rd Fr Ac Ch PS Ly Pa OT Ea Ga Im0 Im1) (wX g X N T Rd Fr Ac Ch PS Ly Pa r.2 Ea Ga Im0 Im1) (zI r.1) := by
  unfold fOT_countFrom at h
  refine zMi_q (own := RX6) rfl (by decide +kernel) (Nat.le_of_ble_eq_true rfl) (lv := [(0, .ref (g.2.2 82)), (1, .int (zI a1))]) rfl ⟨rfl, rfl⟩ ?_
  intro p e s m args below meth c A Q hQ cx
  refine y_iconst cx d_X6_countFrom_0 1 rfl ?_
  refine y_istore_n cx d_X6_countFrom_1 2 rfl rfl (by decide) (lv' := [(2, .int (zI 0)), (0, .ref (g.2.2 82)), (1, .int (zI a1))]) rfl ?_
  refine z_sub [1, 2, 0] rfl ?_
  refine lop2_f (P := fun (v2_1 : Int) (OT_2 : ZB) => V p l e zrOT_countFrom s m args below meth c A s.heap g 4 Q (wX g X N T Rd Fr Ac Ch PS Ly Pa OT_2 Ea Ga Im0 Im1) 0 0 [(0, .ref (g.2.2 82)), (1, .int (zI a1)), (2, .int (zI v2_1))] 2 []) (fun rec_3 hrec_3 v2_1 OT_2 h => ?_) _ _ _ h
  refine z_iload_n cx d_X6_countFrom_2 3 rfl rfl 2 rfl ?_
  refine z_aload_n cx d_X6_countFrom_3 4 rfl rfl 0 rfl ?_
  refine z_get cx d_X6_countFrom_4 7 rfl e_OT rfl zX6 0 (by decide) q_486 rfl rfl ?_
  refine y_callV_i (As := []) (rest := [.int (zI v2_1)]) (W := fun u_4 => wX g X N T Rd Fr Ac Ch PS Ly Pa OT_2 Ea Ga Im0 Im1) (rf := fun u_4 => zI u_4) (rm := zr0) cx (fun _ hq => tN_allPoints hq) d_X6_countFrom_7 10 rfl kk_X5_allPoints q_1113 q_985 q_986 rfl e_N rfl ⟨rfl, rfl⟩ ⟨Nat.le_of_ble_eq_true rfl, Nat.le_of_ble_eq_true rfl⟩ rfl rfl (Nat.le_of_ble_eq_true rfl) ⟨Nat.zero_le _, Nat.zero_le _⟩ h (fun u_4 h => ?_)
  refine y_icmp_gt cx d_X6_countFrom_10 13 rfl 26 (by decide) rfl rfl h (fun h => ?_) (fun h => ?_)
  · refine y_iconst cx d_X6_countFrom_26 27 rfl ?_
    refine y_istore_n cx d_X6_countFrom_27 28 rfl rfl (by decide) (lv' := [(2, .int (zI 0)), (0, .ref (g.2.2 82)), (1, .int (zI a1))]) rfl ?_
    refine z_sub [1, 2, 0] rfl ?_
    refine lop2_f (P := fun (v2_5 : Int) (OT_6 : ZB) => V p l e zrOT_countFrom s m args below meth c A s.heap g 4 Q (wX g X N T Rd Fr Ac Ch PS Ly Pa OT_6 Ea Ga Im0 Im1) 0 0 [(0, .ref (g.2.2 82)), (1, .int (zI a1)), (2, .int (zI v2_5))] 28 []) (fun rec_7 hrec_7 v2_5 OT_6 h => ?_) _ _ _ h
    refine z_iload_n cx d_X6_countFrom_28 29 rfl rfl 2 rfl ?_
    refine z_aload_n cx d_X6_countFrom_29 30 rfl rfl 0 rfl ?_
    refine z_get cx d_X6_countFrom_30 33 rfl e_OT rfl zX6 0 (by decide) q_486 rfl rfl ?_
    refine z_get cx d_X6_countFrom_33 36 rfl e_N rfl zX5 5 (by decide) q_179 rfl rfl ?_
    refine y_icmp_ge cx d_X6_countFrom_36 39 rfl 62 (by decide) rfl rfl h (fun h => ?_) (fun h => ?_)
    · refine y_bipush cx d_X6_countFrom_62 64 rfl (by decide) ?_
      refine y_istore_n cx d_X6_countFrom_64 65 rfl rfl (by decide) (lv' := [(2, .int (zI 24)), (0, .ref (g.2.2 82)), (1, .int (zI a1))]) rfl ?_
      refine y_iconst cx d_X6_countFrom_65 66 rfl ?_
      refine y_istore_n cx d_X6_countFrom_66 67 rfl rfl (by decide) (lv' := [(3, .int (zI 1)), (2, .int (zI 24)), (0, .ref (g.2.2 82)), (1, .int (zI a1))]) rfl ?_
      refine z_sub [2, 3, 1, 0] rfl ?_
      refine lop2_f (P := fun (v2_8 : Int) (v3_9 : Int) => V p l e zrOT_countFrom s m args below meth c A s.heap g 4 Q (wX g X N T Rd Fr Ac Ch PS Ly Pa OT_6 Ea Ga Im0 Im1) 0 0 [(0, .ref (g.2.2 82)), (1, .int (zI a1)), (2, .int (zI v2_8)), (3, .int (zI v3_9))] 67 []) (fun rec_10 hrec_10 v2_8 v3_9 h => ?_) _ _ _ h
      refine z_iload_n cx d_X6_countFrom_67 68 rfl rfl 3 rfl ?_
      refine z_aload_n cx d_X6_countFrom_68 69 rfl rfl 0 rfl ?_
      refine z_get cx d_X6_countFrom_69 72 rfl e_OT rfl zX6 0 (by decide) q_486 rfl rfl ?_
      refine y_callV_i (As := []) (rest := [.int (zI v3_9)]) (W := fun u_11 => wX g X N T Rd Fr Ac Ch PS Ly Pa OT_6 Ea Ga Im0 Im1) (rf := fun u_11 => zI u_11) (rm := zr0) cx (fun _ hq => tN_allPoints hq) d_X6_countFrom_72 75 rfl kk_X5_allPoints q_1113 q_985 q_986 rfl e_N rfl ⟨rfl, rfl⟩ ⟨Nat.le_of_ble_eq_true rfl, Nat.le_of_ble_eq_true rfl⟩ rfl rfl (Nat.le_of_ble_eq_true rfl) ⟨Nat.zero_le _, Nat.zero_le _⟩ h (fun u_11 h => ?_)
      refine y_icmp_gt cx d_X6_countFrom_75 78 rfl 103 (by decide) rfl rfl h (fun h => ?_) (fun h => ?_)
      · refine z_iload_n cx d_X6_countFrom_103 104 rfl rfl 2 rfl ?_
        subst hQ
        obtain rfl := Option.some.inj h
        exact z_iret cx d_X6_countFrom_104 rfl rfl
      · refine z_iload_n cx d_X6_countFrom_78 79 rfl rfl 3 rfl ?_
        refine z_iload_n cx d_X6_countFrom_79 80 rfl rfl 1 rfl ?_
        refine y_ishr cx d_X6_countFrom_80 81 rfl ?_
        refine y_iconst cx d_X6_countFrom_81 82 rfl ?_
        refine y_iand cx d_X6_countFrom_82 83 rfl ?_
        refine kf1_f (P := fun (v2_12 : Int) => V p l e zrOT_countFrom s m args below meth c A s.heap g 4 Q (wX g X N T Rd Fr Ac Ch PS Ly Pa OT_6 Ea Ga Im0 Im1) 0 0 [(0, .ref (g.2.2 82)), (1, .int (zI a1)), (2, .int (zI v2_12)), (3, .int (zI v3_9))] 97 []) h (fun v2_12 h => ?_) (fun k_13 hk_13 h => ?_)
        · refine y_iinc cx 3 d_X6_countFrom_97 100 rfl rfl (by decide) (lv' := [(3, .int (zI (v3_9 + 1))), (0, .ref (g.2.2 82)), (1, .int (zI a1)), (2, .int (zI v2_12))]) rfl ?_
          refine z_goto cx d_X6_countFrom_100 67 (by decide) ?_
          refine z_sub [1, 2, 3, 0] rfl ?_
          exact hrec_10 _ _ h
        refine y_if_ne cx d_X6_countFrom_83 86 rfl 97 (by decide) (nm_zand _ _) h (fun h => ?_) (fun h => ?_)
        · exact hk_13 _ h
        · refine z_iload_n cx d_X6_countFrom_86 87 rfl rfl 2 rfl ?_
          refine z_aload_n cx d_X6_countFrom_87 88 rfl rfl 0 rfl ?_
          refine z_get cx d_X6_countFrom_88 91 rfl e_OT rfl zX6 1 (by decide) q_487 rfl rfl ?_
          refine z_iload_n cx d_X6_countFrom_91 92 rfl rfl 3 rfl ?_
          refine y_ialdx cx d_X6_countFrom_92 93 rfl e_OT_entering (by decide) h (fun x_14 h => ?_)
          refine y_mmin cx d_X6_countFrom_93 96 rfl q_1125 q_619 q_129 q_620 (Nat.le_of_ble_eq_true rfl) (Nat.le_of_ble_eq_true rfl) (Nat.zero_le _) (Nat.zero_le _) ?_
          refine y_istore_n_b cx d_X6_countFrom_96 97 rfl rfl (by decide) (fun y => [(2, .int (zI y)), (0, .ref (g.2.2 82)), (1, .int (zI a1)), (3, .int (zI v3_9))]) (fun y => rfl) h (fun v2_15 h => ?_)
          refine z_sub [1, 2, 0, 3] rfl ?_
          exact hk_13 _ h
    · refine z_aload_n cx d_X6_countFrom_39 40 rfl rfl 0 rfl ?_
      refine z_get cx d_X6_countFrom_40 43 rfl e_OT rfl zX6 0 (by decide) q_486 rfl rfl ?_
      refine z_iload_n cx d_X6_countFrom_43 44 rfl rfl 2 rfl ?_
      refine y_callV_i (As := [.int (zI v2_5)]) (rest := []) (W := fun u_16 => wX g X N T Rd Fr Ac Ch PS Ly Pa OT_6 Ea Ga Im0 Im1) (rf := fun u_16 => zI u_16) (rm := zr0) cx (fun _ hq => tN_isSound hq) d_X6_countFrom_44 47 rfl kk_X5_isSound q_1114 q_781 q_782 rfl e_N rfl ⟨rfl, rfl⟩ ⟨Nat.le_of_ble_eq_true rfl, Nat.le_of_ble_eq_true rfl⟩ rfl rfl (Nat.le_of_ble_eq_true rfl) ⟨Nat.zero_le _, Nat.zero_le _⟩ h (fun u_16 h => ?_)
      refine kf1_f (P := fun (OT_17 : ZB) => V p l e zrOT_countFrom s m args below meth c A s.heap g 4 Q (wX g X N T Rd Fr Ac Ch PS Ly Pa OT_17 Ea Ga Im0 Im1) 0 0 [(0, .ref (g.2.2 82)), (1, .int (zI a1)), (2, .int (zI v2_5))] 56 []) h (fun OT_17 h => ?_) (fun k_18 hk_18 h => ?_)
      · refine y_iinc cx 2 d_X6_countFrom_56 59 rfl rfl (by decide) (lv' := [(2, .int (zI (v2_5 + 1))), (0, .ref (g.2.2 82)), (1, .int (zI a1))]) rfl ?_
        refine z_goto cx d_X6_countFrom_59 28 (by decide) ?_
        refine z_sub [1, 2, 0] rfl ?_
        exact hrec_7 _ _ h
      refine y_if_eq cx d_X6_countFrom_47 50 rfl 56 (by decide) rfl h (fun h => ?_) (fun h => ?_)
      · exact hk_18 _ h
      · refine z_aload_n cx d_X6_countFrom_50 51 rfl rfl 0 rfl ?_
        refine z_iload_n cx d_X6_countFrom_51 52 rfl rfl 2 rfl ?_
        refine y_iconst cx d_X6_countFrom_52 53 rfl ?_
        refine y_callV_v (As := [.int (zI v2_5), .int (zI 1)]) (rest := []) (W := fun u_19 => wX g X N T Rd Fr Ac Ch PS Ly Pa u_19 Ea Ga Im0 Im1) (rm := zrOT_change) cx (fun _ hq => tOT_change hq) d_X6_countFrom_53 56 rfl kk_X6_change q_1115 q_1117 q_29 rfl e_OT rfl ⟨rfl, rfl⟩ ⟨Nat.le_of_ble_eq_true rfl, Nat.le_of_ble_eq_true rfl⟩ rfl rfl (Nat.le_of_ble_eq_true rfl) ⟨Nat.zero_le _, Nat.zero_le _⟩ h (fun u_19 h => ?_)
        exact hk_18 _ h
  · refine z_aload_n cx d_X6_countFrom_13 14 rfl rfl 0 rfl ?_
    refine z_get cx d_X6_countFrom_14 17 rfl e_OT rfl zX6 1 (by decide) q_487 rfl rfl ?_
    refine z_iload_n cx d_X6_countFrom_17 18 rfl rfl 2 rfl ?_
    refine y_iconst cx d_X6_countFrom_18 19 rfl ?_
    refine y_iast cx d_X6_countFrom_19 20 rfl e_OT_entering (by decide) h (fun _ h9 => s_OT_entering h9) (fun OT_20 h => ?_)
    refine y_iinc cx 2 d_X6_countFrom_20 23 rfl rfl (by decide) (lv' := [(2, .int (zI (v2_1 + 1))), (0, .ref (g.2.2 82)), (1, .int (zI a1))]) rfl ?_
    refine z_goto cx d_X6_countFrom_23 2 (by decide) ?_
    refine z_sub [1, 2, 0] rfl ?_
    exact hrec_3 _ _ h
def zrOT_canGo : Room := { frames := 2, cells := 0, slots := 0, locals := 43 }
set_option maxHeartbeats 4000000 in
theorem tOT_canGo {l : Launch} {g : ZG} {X : ZB} {N : ZB} {T : ZB} {Rd : ZB} {Fr : ZB} {Ac : ZA} {Ch : ZB} {PS : ZB} {Ly : ZB} {Pa : ZQ} {OT : ZB} {Ea : ZB} {Ga : ZB} {Im0 : ZO} {Im1 : ZO} {a1 : Int} {a2 : Int} {a3 : Int} {r : Int} (h : fOT_canGo N OT a1 a2 a3 = some r) : zMi l yX6_canGo cX6_canGo 5 (some .boolean) zrOT_canGo g [.ref (g.2.2 82), .int (zI a1), .int (zI a2), .int (zI a3)] (wX g X N T Rd Fr Ac Ch PS Ly Pa OT Ea Ga Im0 Im1) (wX g X N T Rd Fr Ac Ch PS Ly Pa OT Ea Ga Im0 Im1) (zI r) := by
  unfold fOT_canGo at h
  refine zMi_q (own := RX6) rfl (by decide +kernel) (Nat.le_of_ble_eq_true rfl) (lv := [(0, .ref (g.2.2 82)), (1, .int (zI a1)), (2, .int (zI a2)), (3, .int (zI a3))]) rfl ⟨rfl, rfl⟩ ?_
  intro p e s m args below meth c A Q hQ cx
  refine y_iconst cx d_X6_canGo_0 1 rfl ?_
  refine y_istore cx d_X6_canGo_1 3 rfl (by decide) (lv' := [(4, .int (zI 1)), (0, .ref (g.2.2 82)), (1, .int (zI a1)), (2, .int (zI a2)), (3, .int (zI a3))]) rfl ?_
  refine z_sub [1, 2, 3, 4, 0] rfl ?_
  refine lop1_f (P := fun (v4_1 : Int) => V p l e zrOT_canGo s m args below meth c A s.heap g 5 Q (wX g X N T Rd Fr Ac Ch PS Ly Pa OT Ea Ga Im0 Im1) 0 0 [(0, .ref (g.2.2 82)), (1, .int (zI a1)), (2, .int (zI a2)), (3, .int (zI a3)), (4, .int (zI v4_1))] 3 []) (fun rec_2 hrec_2 v4_1 h => ?_) _ _ h
  refine z_iload cx d_X6_canGo_3 5 rfl 4 rfl ?_
  refine z_aload_n cx d_X6_canGo_5 6 rfl rfl 0 rfl ?_
  refine z_get cx d_X6_canGo_6 9 rfl e_OT rfl zX6 0 (by decide) q_486 rfl rfl ?_
  refine y_callV_i (As := []) (rest := [.int (zI v4_1)]) (W := fun u_3 => wX g X N T Rd Fr Ac Ch PS Ly Pa OT Ea Ga Im0 Im1) (rf := fun u_3 => zI u_3) (rm := zr0) cx (fun _ hq => tN_allPoints hq) d_X6_canGo_9 12 rfl kk_X5_allPoints q_1113 q_985 q_986 rfl e_N rfl ⟨rfl, rfl⟩ ⟨Nat.le_of_ble_eq_true rfl, Nat.le_of_ble_eq_true rfl⟩ rfl rfl (Nat.le_of_ble_eq_true rfl) ⟨Nat.zero_le _, Nat.zero_le _⟩ h (fun u_3 h => ?_)
  refine y_icmp_gt cx d_X6_canGo_12 15 rfl 53 (by decide) rfl rfl h (fun h => ?_) (fun h => ?_)
  · refine y_iconst cx d_X6_canGo_53 54 rfl ?_
    subst hQ
    obtain rfl := Option.some.inj h
    exact z_zret cx d_X6_canGo_54 (zb01 (by decide)) rfl rfl
  · refine z_iload cx d_X6_canGo_15 17 rfl 4 rfl ?_
    refine z_iload_n cx d_X6_canGo_17 18 rfl rfl 1 rfl ?_
    refine y_ishr cx d_X6_canGo_18 19 rfl ?_
    refine y_iconst cx d_X6_canGo_19 20 rfl ?_
    refine y_iand cx d_X6_canGo_20 21 rfl ?_
    refine kf0_f (P := V p l e zrOT_canGo s m args below meth c A s.heap g 5 Q (wX g X N T Rd Fr Ac Ch PS Ly Pa OT Ea Ga Im0 Im1) 0 0 [(0, .ref (g.2.2 82)), (1, .int (zI a1)), (2, .int (zI a2)), (3, .int (zI a3)), (4, .int (zI v4_1))] 47 []) h (fun h => ?_) (fun k_4 hk_4 h => ?_)
    · refine y_iinc cx 4 d_X6_canGo_47 50 rfl rfl (by decide) (lv' := [(4, .int (zI (v4_1 + 1))), (0, .ref (g.2.2 82)), (1, .int (zI a1)), (2, .int (zI a2)), (3, .int (zI a3))]) rfl ?_
      refine z_goto cx d_X6_canGo_50 3 (by decide) ?_
      refine z_sub [1, 2, 3, 4, 0] rfl ?_
      exact hrec_2 _ h
    refine y_if_ne cx d_X6_canGo_21 24 rfl 47 (by decide) (nm_zand _ _) h (fun h => ?_) (fun h => ?_)
    · exact hk_4  h
    · refine z_aload_n cx d_X6_canGo_24 25 rfl rfl 0 rfl ?_
      refine z_iload_n cx d_X6_canGo_25 26 rfl rfl 2 rfl ?_
      refine z_iload cx d_X6_canGo_26 28 rfl 4 rfl ?_
      refine y_callV_i (As := [.int (zI a2), .int (zI v4_1)]) (rest := []) (W := fun u_5 => wX g X N T Rd Fr Ac Ch PS Ly Pa OT Ea Ga Im0 Im1) (rf := fun u_5 => zI u_5) (rm := zrOT_enters) cx (fun _ hq => tOT_enters hq) d_X6_canGo_28 31 rfl kk_X6_enters q_1119 q_1121 q_30 rfl e_OT rfl ⟨rfl, rfl⟩ ⟨Nat.le_of_ble_eq_true rfl, Nat.le_of_ble_eq_true rfl⟩ rfl rfl (Nat.le_of_ble_eq_true rfl) ⟨Nat.zero_le _, Nat.zero_le _⟩ h (fun u_5 h => ?_)
      refine y_if_eq cx d_X6_canGo_31 34 rfl 47 (by decide) rfl h (fun h => ?_) (fun h => ?_)
      · exact hk_4  h
      · refine z_aload_n cx d_X6_canGo_34 35 rfl rfl 0 rfl ?_
        refine z_get cx d_X6_canGo_35 38 rfl e_OT rfl zX6 1 (by decide) q_487 rfl rfl ?_
        refine z_iload cx d_X6_canGo_38 40 rfl 4 rfl ?_
        refine y_ialdx cx d_X6_canGo_40 41 rfl e_OT_entering (by decide) h (fun x_6 h => ?_)
        refine z_iload_n cx d_X6_canGo_41 42 rfl rfl 3 rfl ?_
        refine y_icmp_gt cx d_X6_canGo_42 45 rfl 47 (by decide) rfl rfl h (fun h => ?_) (fun h => ?_)
        · exact hk_4  h
        · refine y_iconst cx d_X6_canGo_45 46 rfl ?_
          subst hQ
          obtain rfl := Option.some.inj h
          exact z_zret cx d_X6_canGo_46 (zb01 (by decide)) rfl rfl
def zrOT_firstFit : Room := { frames := 3, cells := 0, slots := 0, locals := 67 }
set_option maxHeartbeats 4000000 in
theorem tOT_firstFit {l : Launch} {g : ZG} {X : ZB} {N : ZB} {T : ZB} {Rd : ZB} {Fr : ZB} {Ac : ZA} {Ch : ZB} {PS : ZB} {Ly : ZB} {Pa : ZQ} {OT : ZB} {Ea : ZB} {Ga : ZB} {Im0 : ZO} {Im1 : ZO} {a1 : Int} {a2 : Int} {a3 : Int} {a4 : Int} {r : Int} (h : fOT_firstFit N OT a1 a2 a3 a4 = some r) : zMi l yX6_firstFit cX6_firstFit 7 (some .int) zrOT_firstFit g [.ref (g.2.2 82), .int (zI a1), .int (zI a2), .int (zI a3), .int (zI a4)] (wX g X N T Rd Fr Ac Ch PS Ly Pa OT Ea Ga Im0 Im1) (wX g X N T Rd Fr Ac Ch PS Ly Pa OT Ea Ga Im0 Im1) (zI r) := by
  unfold fOT_firstFit at h
  refine zMi_q (own := RX6) rfl (by decide +kernel) (Nat.le_of_ble_eq_true rfl) (lv := [(0, .ref (g.2.2 82)), (1, .int (zI a1)), (2, .int (zI a2)), (3, .int (zI a3)), (4, .int (zI a4))]) rfl ⟨rfl, rfl⟩ ?_
  intro p e s m args below meth c A Q hQ cx
  refine y_iconst cx d_X6_firstFit_0 1 rfl ?_
  refine y_istore cx d_X6_firstFit_1 3 rfl (by decide) (lv' := [(5, .int (zI 0)), (0, .ref (g.2.2 82)), (1, .int (zI a1)), (2, .int (zI a2)), (3, .int (zI a3)), (4, .int (zI a4))]) rfl ?_
  refine z_sub [1, 2, 3, 4, 5, 0] rfl ?_
  refine lop1_f (P := fun (v5_1 : Int) => V p l e zrOT_firstFit s m args below meth c A s.heap g 7 Q (wX g X N T Rd Fr Ac Ch PS Ly Pa OT Ea Ga Im0 Im1) 0 0 [(0, .ref (g.2.2 82)), (1, .int (zI a1)), (2, .int (zI a2)), (3, .int (zI a3)), (4, .int (zI a4)), (5, .int (zI v5_1))] 3 []) (fun rec_2 hrec_2 v5_1 h => ?_) _ _ h
  refine z_iload cx d_X6_firstFit_3 5 rfl 5 rfl ?_
  refine z_aload_n cx d_X6_firstFit_5 6 rfl rfl 0 rfl ?_
  refine z_get cx d_X6_firstFit_6 9 rfl e_OT rfl zX6 0 (by decide) q_486 rfl rfl ?_
  refine z_get cx d_X6_firstFit_9 12 rfl e_N rfl zX5 5 (by decide) q_179 rfl rfl ?_
  refine y_icmp_ge cx d_X6_firstFit_12 15 rfl 77 (by decide) rfl rfl h (fun h => ?_) (fun h => ?_)
  · refine y_iconst cx d_X6_firstFit_77 78 rfl ?_
    subst hQ
    obtain rfl := Option.some.inj h
    exact z_iret cx d_X6_firstFit_78 rfl rfl
  · refine z_iload_n cx d_X6_firstFit_15 16 rfl rfl 3 rfl ?_
    refine z_iload cx d_X6_firstFit_16 18 rfl 5 rfl ?_
    refine y_ishr cx d_X6_firstFit_18 19 rfl ?_
    refine y_iconst cx d_X6_firstFit_19 20 rfl ?_
    refine y_iand cx d_X6_firstFit_20 21 rfl ?_
    refine kf1_f (P := fun (w0_3 : Int) => V p l e zrOT_firstFit s m args below meth c A s.heap g 7 Q (wX g X N T Rd Fr Ac Ch PS Ly Pa OT Ea Ga Im0 Im1) 0 0 [(0, .ref (g.2.2 82)), (1, .int (zI a1)), (2, .int (zI a2)), (3, .int (zI a3)), (4, .int (zI a4)), (5, .int (zI v5_1))] 49 [.int (zI w0_3)]) h (fun w0_3 h => ?_) (fun k_4 hk_4 h => ?_)
    · refine y_istore cx d_X6_firstFit_49 51 rfl (by decide) (lv' := [(6, .int (zI w0_3)), (0, .ref (g.2.2 82)), (1, .int (zI a1)), (2, .int (zI a2)), (3, .int (zI a3)), (4, .int (zI a4)), (5, .int (zI v5_1))]) rfl ?_
      refine z_iload cx d_X6_firstFit_51 53 rfl 0 rfl ?_
      refine kf0_f (P := V p l e zrOT_firstFit s m args below meth c A s.heap g 7 Q (wX g X N T Rd Fr Ac Ch PS Ly Pa OT Ea Ga Im0 Im1) 0 0 [(0, .ref (g.2.2 82)), (1, .int (zI a1)), (2, .int (zI a2)), (3, .int (zI a3)), (4, .int (zI a4)), (5, .int (zI v5_1))] 71 []) h (fun h => ?_) (fun k_5 hk_5 h => ?_)
      · refine y_iinc cx 5 d_X6_firstFit_71 74 rfl rfl (by decide) (lv' := [(5, .int (zI (v5_1 + 1))), (0, .ref (g.2.2 82)), (1, .int (zI a1)), (2, .int (zI a2)), (3, .int (zI a3)), (4, .int (zI a4))]) rfl ?_
        refine z_goto cx d_X6_firstFit_74 3 (by decide) ?_
        refine z_sub [1, 2, 3, 4, 5, 0] rfl ?_
        exact hrec_2 _ h
      refine y_if_eq cx d_X6_firstFit_53 56 rfl 71 (by decide) rfl h (fun h => ?_) (fun h => ?_)
      · refine z_sub [1, 2, 3, 4, 5, 6] rfl ?_
        exact hk_5  h
      · refine z_aload_n cx d_X6_firstFit_56 57 rfl rfl 1 rfl ?_
        refine z_iload_n cx d_X6_firstFit_57 58 rfl rfl 2 rfl ?_
        refine z_iload cx d_X6_firstFit_58 60 rfl 6 rfl ?_
        refine z_iload cx d_X6_firstFit_60 62 rfl 5 rfl ?_
        refine y_callV_i (As := [.int (zI a1), .int (zI v5_1), .int (zI a4)]) (rest := []) (W := fun u_6 => wX g X N T Rd Fr Ac Ch PS Ly Pa OT Ea Ga Im0 Im1) (rf := fun u_6 => zI u_6) (rm := zrOT_canGo) cx (fun _ hq => tOT_canGo hq) d_X6_firstFit_62 65 rfl kk_X6_canGo q_1144 q_1146 q_33 rfl e_OT rfl ⟨rfl, rfl⟩ ⟨Nat.le_of_ble_eq_true rfl, Nat.le_of_ble_eq_true rfl⟩ rfl rfl (Nat.le_of_ble_eq_true rfl) ⟨Nat.zero_le _, Nat.zero_le _⟩ h (fun u_6 h => ?_)
        refine y_if_eq cx d_X6_firstFit_65 68 rfl 71 (by decide) rfl h (fun h => ?_) (fun h => ?_)
        · refine z_sub [1, 2, 3, 4, 5, 6] rfl ?_
          exact hk_5  h
        · refine z_iload cx d_X6_firstFit_68 70 rfl 6 rfl ?_
          subst hQ
          obtain rfl := Option.some.inj h
          exact z_iret cx d_X6_firstFit_70 rfl rfl
    refine kf0_f (P := V p l e zrOT_firstFit s m args below meth c A s.heap g 7 Q (wX g X N T Rd Fr Ac Ch PS Ly Pa OT Ea Ga Im0 Im1) 0 0 [(0, .ref (g.2.2 82)), (1, .int (zI a1)), (2, .int (zI a2)), (3, .int (zI a3)), (4, .int (zI a4)), (5, .int (zI v5_1))] 48 []) h (fun h => ?_) (fun k_7 hk_7 h => ?_)
    · refine y_iconst cx d_X6_firstFit_48 49 rfl ?_
      exact hk_4 _ h
    refine y_if_eq cx d_X6_firstFit_21 24 rfl 48 (by decide) (nm_zand _ _) h (fun h => ?_) (fun h => ?_)
    · exact hk_7  h
    · refine z_aload_n cx d_X6_firstFit_24 25 rfl rfl 0 rfl ?_
      refine z_iload cx d_X6_firstFit_25 27 rfl 5 rfl ?_
      refine z_aload_n cx d_X6_firstFit_27 28 rfl rfl 0 rfl ?_
      refine z_get cx d_X6_firstFit_28 31 rfl e_OT rfl zX6 0 (by decide) q_486 rfl rfl ?_
      refine y_callV_i (As := []) (rest := [.int (zI v5_1), .ref (g.2.2 82)]) (W := fun u_8 => wX g X N T Rd Fr Ac Ch PS Ly Pa OT Ea Ga Im0 Im1) (rf := fun u_8 => zI u_8) (rm := zr0) cx (fun _ hq => tN_allPoints hq) d_X6_firstFit_31 34 rfl kk_X5_allPoints q_1113 q_985 q_986 rfl e_N rfl ⟨rfl, rfl⟩ ⟨Nat.le_of_ble_eq_true rfl, Nat.le_of_ble_eq_true rfl⟩ rfl rfl (Nat.le_of_ble_eq_true rfl) ⟨Nat.zero_le _, Nat.zero_le _⟩ h (fun u_8 h => ?_)
      refine z_iload_n cx d_X6_firstFit_34 35 rfl rfl 2 rfl ?_
      refine y_iconst cx d_X6_firstFit_35 36 rfl ?_
      refine y_ixor cx d_X6_firstFit_36 37 rfl ?_
      refine y_iand cx d_X6_firstFit_37 38 rfl ?_
      refine y_callV_i (As := [.int (zI v5_1), .int (zI (zand u_8 (zxor a2 (-1))))]) (rest := []) (W := fun u_9 => wX g X N T Rd Fr Ac Ch PS Ly Pa OT Ea Ga Im0 Im1) (rf := fun u_9 => zI u_9) (rm := zrOT_enters) cx (fun _ hq => tOT_enters hq) d_X6_firstFit_38 41 rfl kk_X6_enters q_1119 q_1121 q_30 rfl e_OT rfl ⟨rfl, rfl⟩ ⟨Nat.le_of_ble_eq_true rfl, Nat.le_of_ble_eq_true rfl⟩ rfl rfl (Nat.le_of_ble_eq_true rfl) ⟨Nat.zero_le _, Nat.zero_le _⟩ h (fun u_9 h => ?_)
      refine y_if_eq cx d_X6_firstFit_41 44 rfl 48 (by decide) rfl h (fun h => ?_) (fun h => ?_)
      · exact hk_7  h
      · refine y_iconst cx d_X6_firstFit_44 45 rfl ?_
        refine z_goto cx d_X6_firstFit_45 49 (by decide) ?_
        exact hk_4 _ h
def zrOT_grow : Room := { frames := 4, cells := 0, slots := 0, locals := 93 }
set_option maxHeartbeats 4000000 in
theorem tOT_grow {l : Launch} {g : ZG} {X : ZB} {N : ZB} {T : ZB} {Rd : ZB} {Fr : ZB} {Ac : ZA} {Ch : ZB} {PS : ZB} {Ly : ZB} {Pa : ZQ} {OT : ZB} {Ea : ZB} {Ga : ZB} {Im0 : ZO} {Im1 : ZO} {a1 : Int} {a2 : Int} {a3 : Int} {r : Int × ZB} (h : fOT_grow N OT a1 a2 a3 = some r) : zMi l yX6_grow cX6_grow 8 (some .int) zrOT_grow g [.ref (g.2.2 82), .int (zI a1), .int (zI a2), .int (zI a3)] (wX g X N T Rd Fr Ac Ch PS Ly Pa OT Ea Ga Im0 Im1) (wX g X N T Rd Fr Ac Ch PS Ly Pa r.2 Ea Ga Im0 Im1) (zI r.1) := by
  unfold fOT_grow at h
  refine zMi_q (own := RX6) rfl (by decide +kernel) (Nat.le_of_ble_eq_true rfl) (lv := [(0, .ref (g.2.2 82)), (1, .int (zI a1)), (2, .int (zI a2)), (3, .int (zI a3))]) rfl ⟨rfl, rfl⟩ ?_
  intro p e s m args below meth c A Q hQ cx
  refine y_iconst cx d_X6_grow_0 1 rfl ?_
  refine z_iload_n cx d_X6_grow_1 2 rfl rfl 1 rfl ?_
  refine y_ishl cx d_X6_grow_2 3 rfl ?_
  refine y_istore_b cx d_X6_grow_3 5 rfl (by decide) (fun y => [(4, .int (zI y)), (0, .ref (g.2.2 82)), (1, .int (zI a1)), (2, .int (zI a2)), (3, .int (zI a3))]) (fun y => rfl) h (fun v4_1 h => ?_)
  refine y_iconst cx d_X6_grow_5 6 rfl ?_
  refine y_istore cx d_X6_grow_6 8 rfl (by decide) (lv' := [(5, .int (zI 0)), (4, .int (zI v4_1)), (0, .ref (g.2.2 82)), (1, .int (zI a1)), (2, .int (zI a2)), (3, .int (zI a3))]) rfl ?_
  refine y_iconst cx d_X6_grow_8 9 rfl ?_
  refine y_istore cx d_X6_grow_9 11 rfl (by decide) (lv' := [(6, .int (zI 1)), (5, .int (zI 0)), (4, .int (zI v4_1)), (0, .ref (g.2.2 82)), (1, .int (zI a1)), (2, .int (zI a2)), (3, .int (zI a3))]) rfl ?_
  refine z_sub [3, 4, 5, 6, 2, 1, 0] rfl ?_
  refine lop4_f (P := fun (v4_2 : Int) (v5_3 : Int) (v6_4 : Int) (OT_5 : ZB) => V p l e zrOT_grow s m args below meth c A s.heap g 8 Q (wX g X N T Rd Fr Ac Ch PS Ly Pa OT_5 Ea Ga Im0 Im1) 0 0 [(0, .ref (g.2.2 82)), (1, .int (zI a1)), (2, .int (zI a2)), (3, .int (zI a3)), (4, .int (zI v4_2)), (5, .int (zI v5_3)), (6, .int (zI v6_4))] 11 []) (fun rec_6 hrec_6 v4_2 v5_3 v6_4 OT_5 h => ?_) _ _ _ _ _ h
  refine z_iload cx d_X6_grow_11 13 rfl 6 rfl ?_
  refine z_aload_n cx d_X6_grow_13 14 rfl rfl 0 rfl ?_
  refine z_get cx d_X6_grow_14 17 rfl e_OT rfl zX6 0 (by decide) q_486 rfl rfl ?_
  refine z_get cx d_X6_grow_17 20 rfl e_N rfl zX5 4 (by decide) q_175 rfl rfl ?_
  refine kf0_f (P := V p l e zrOT_grow s m args below meth c A s.heap g 8 Q (wX g X N T Rd Fr Ac Ch PS Ly Pa OT_5 Ea Ga Im0 Im1) 0 0 [(5, .int (zI v5_3))] 81 []) h (fun h => ?_) (fun k_7 hk_7 h => ?_)
  · refine z_iload cx d_X6_grow_81 83 rfl 0 rfl ?_
    subst hQ
    obtain rfl := Option.some.inj h
    exact z_iret cx d_X6_grow_83 rfl rfl
  refine y_icmp_ge cx d_X6_grow_20 23 rfl 81 (by decide) rfl rfl h (fun h => ?_) (fun h => ?_)
  · refine z_sub [5] rfl ?_
    exact hk_7  h
  · refine z_aload_n cx d_X6_grow_23 24 rfl rfl 0 rfl ?_
    refine z_iload_n cx d_X6_grow_24 25 rfl rfl 1 rfl ?_
    refine z_iload cx d_X6_grow_25 27 rfl 4 rfl ?_
    refine z_iload_n cx d_X6_grow_27 28 rfl rfl 2 rfl ?_
    refine z_iload_n cx d_X6_grow_28 29 rfl rfl 3 rfl ?_
    refine y_callV_i (As := [.int (zI a1), .int (zI v4_2), .int (zI a2), .int (zI a3)]) (rest := []) (W := fun u_8 => wX g X N T Rd Fr Ac Ch PS Ly Pa OT_5 Ea Ga Im0 Im1) (rf := fun u_8 => zI u_8) (rm := zrOT_firstFit) cx (fun _ hq => tOT_firstFit hq) d_X6_grow_29 32 rfl kk_X6_firstFit q_1140 q_1142 q_32 rfl e_OT rfl ⟨rfl, rfl⟩ ⟨Nat.le_of_ble_eq_true rfl, Nat.le_of_ble_eq_true rfl⟩ rfl rfl (Nat.le_of_ble_eq_true rfl) ⟨Nat.zero_le _, Nat.zero_le _⟩ h (fun u_8 h => ?_)
    refine y_istore cx d_X6_grow_32 34 rfl (by decide) (lv' := [(7, .int (zI u_8)), (0, .ref (g.2.2 82)), (1, .int (zI a1)), (2, .int (zI a2)), (3, .int (zI a3)), (4, .int (zI v4_2)), (5, .int (zI v5_3)), (6, .int (zI v6_4))]) rfl ?_
    refine z_iload cx d_X6_grow_34 36 rfl 0 rfl ?_
    refine y_iconst cx d_X6_grow_36 37 rfl ?_
    refine y_icmp_ne cx d_X6_grow_37 40 rfl 43 (by decide) rfl (nm_eq (x := (-1)) (by decide) (by decide)) h (fun h => ?_) (fun h => ?_)
    · refine z_aload_n cx d_X6_grow_43 44 rfl rfl 1 rfl ?_
      refine z_iload cx d_X6_grow_44 46 rfl 0 rfl ?_
      refine y_iconst cx d_X6_grow_46 47 rfl ?_
      refine y_callV_v (As := [.int (zI u_8), .int (zI (-1))]) (rest := []) (W := fun u_9 => wX g X N T Rd Fr Ac Ch PS Ly Pa u_9 Ea Ga Im0 Im1) (rm := zrOT_change) cx (fun _ hq => tOT_change hq) d_X6_grow_47 50 rfl kk_X6_change q_1115 q_1117 q_29 rfl e_OT rfl ⟨rfl, rfl⟩ ⟨Nat.le_of_ble_eq_true rfl, Nat.le_of_ble_eq_true rfl⟩ rfl rfl (Nat.le_of_ble_eq_true rfl) ⟨Nat.zero_le _, Nat.zero_le _⟩ h (fun u_9 h => ?_)
      refine z_iload cx d_X6_grow_50 52 rfl 5 rfl ?_
      refine y_iconst cx d_X6_grow_52 53 rfl ?_
      refine z_aload_n cx d_X6_grow_53 54 rfl rfl 1 rfl ?_
      refine z_get cx d_X6_grow_54 57 rfl e_OT rfl zX6 0 (by decide) q_486 rfl rfl ?_
      refine z_iload cx d_X6_grow_57 59 rfl 0 rfl ?_
      refine y_callV_i (As := [.int (zI u_8)]) (rest := [.int (zI 1), .int (zI v4_2)]) (W := fun u_10 => wX g X N T Rd Fr Ac Ch PS Ly Pa u_9 Ea Ga Im0 Im1) (rf := fun u_10 => zI u_10) (rm := zr0) cx (fun _ hq => tN_head hq) d_X6_grow_59 62 rfl kk_X5_head q_1123 q_929 q_930 rfl e_N rfl ⟨rfl, rfl⟩ ⟨Nat.le_of_ble_eq_true rfl, Nat.le_of_ble_eq_true rfl⟩ rfl rfl (Nat.le_of_ble_eq_true rfl) ⟨Nat.zero_le _, Nat.zero_le _⟩ h (fun u_10 h => ?_)
      refine y_ishl cx d_X6_grow_62 63 rfl ?_
      refine y_ior cx d_X6_grow_63 64 rfl ?_
      refine y_istore_b cx d_X6_grow_64 66 rfl (by decide) (fun y => [(4, .int (zI y)), (7, .int (zI u_8)), (0, .ref (g.2.2 82)), (1, .int (zI a1)), (2, .int (zI a2)), (3, .int (zI a3)), (5, .int (zI v5_3)), (6, .int (zI v6_4))]) (fun y => rfl) h (fun v4_11 h => ?_)
      refine z_iload cx d_X6_grow_66 68 rfl 6 rfl ?_
      refine y_iconst cx d_X6_grow_68 69 rfl ?_
      refine z_iload cx d_X6_grow_69 71 rfl 1 rfl ?_
      refine y_ishl cx d_X6_grow_71 72 rfl ?_
      refine y_ior cx d_X6_grow_72 73 rfl ?_
      refine y_istore_b cx d_X6_grow_73 75 rfl (by decide) (fun y => [(5, .int (zI y)), (4, .int (zI v4_11)), (7, .int (zI u_8)), (0, .ref (g.2.2 82)), (1, .int (zI a1)), (2, .int (zI a2)), (3, .int (zI a3)), (6, .int (zI v6_4))]) (fun y => rfl) h (fun v5_12 h => ?_)
      refine y_iinc cx 7 d_X6_grow_75 78 rfl rfl (by decide) (lv' := [(6, .int (zI (v6_4 + 1))), (5, .int (zI v5_12)), (4, .int (zI v4_11)), (7, .int (zI u_8)), (0, .ref (g.2.2 82)), (1, .int (zI a1)), (2, .int (zI a2)), (3, .int (zI a3))]) rfl ?_
      refine z_goto cx d_X6_grow_78 11 (by decide) ?_
      refine z_sub [4, 5, 6, 7, 2, 1, 0] rfl ?_
      exact hrec_6 _ _ _ _ h
    · refine z_goto cx d_X6_grow_40 81 (by decide) ?_
      refine z_sub [6] rfl ?_
      exact hk_7  h
def zrOT_treeSet : Room := { frames := 5, cells := 0, slots := 0, locals := 120 }
set_option maxHeartbeats 4000000 in
theorem tOT_treeSet {l : Launch} {g : ZG} {X : ZB} {N : ZB} {T : ZB} {Rd : ZB} {Fr : ZB} {Ac : ZA} {Ch : ZB} {PS : ZB} {Ly : ZB} {Pa : ZQ} {OT : ZB} {Ea : ZB} {Ga : ZB} {Im0 : ZO} {Im1 : ZO} {a1 : Int} {a2 : Int} {r : Int × ZB} (h : fOT_treeSet N OT a1 a2 = some r) : zMi l yX6_treeSet cX6_treeSet 7 (some .int) zrOT_treeSet g [.ref (g.2.2 82), .int (zI a1), .int (zI a2)] (wX g X N T Rd Fr Ac Ch PS Ly Pa OT Ea Ga Im0 Im1) (wX g X N T Rd Fr Ac Ch PS Ly Pa r.2 Ea Ga Im0 Im1) (zI r.1) := by
  unfold fOT_treeSet at h
  refine zMi_q (own := RX6) rfl (by decide +kernel) (Nat.le_of_ble_eq_true rfl) (lv := [(0, .ref (g.2.2 82)), (1, .int (zI a1)), (2, .int (zI a2))]) rfl ⟨rfl, rfl⟩ ?_
  intro p e s m args below meth c A Q hQ cx
  refine z_aload_n cx d_X6_treeSet_0 1 rfl rfl 0 rfl ?_
  refine z_iload_n cx d_X6_treeSet_1 2 rfl rfl 1 rfl ?_
  refine y_callV_i (As := [.int (zI a1)]) (rest := []) (W := fun u_1 => wX g X N T Rd Fr Ac Ch PS Ly Pa u_1.2 Ea Ga Im0 Im1) (rf := fun u_1 => zI u_1.1) (rm := zrOT_countFrom) cx (fun _ hq => tOT_countFrom hq) d_X6_treeSet_2 5 rfl kk_X6_countFrom q_1134 q_1110 q_1111 rfl e_OT rfl ⟨rfl, rfl⟩ ⟨Nat.le_of_ble_eq_true rfl, Nat.le_of_ble_eq_true rfl⟩ rfl rfl (Nat.le_of_ble_eq_true rfl) ⟨Nat.zero_le _, Nat.zero_le _⟩ h (fun u_1 h => ?_)
  refine y_istore_n cx d_X6_treeSet_5 6 rfl rfl (by decide) (lv' := [(3, .int (zI u_1.1)), (0, .ref (g.2.2 82)), (1, .int (zI a1)), (2, .int (zI a2))]) rfl ?_
  refine z_iload_n cx d_X6_treeSet_6 7 rfl rfl 3 rfl ?_
  refine kf0_f (P := V p l e zrOT_treeSet s m args below meth c A s.heap g 7 Q (wX g X N T Rd Fr Ac Ch PS Ly Pa u_1.2 Ea Ga Im0 Im1) 0 0 [] 15 []) h (fun h => ?_) (fun k_2 hk_2 h => ?_)
  · refine y_iconst cx d_X6_treeSet_15 16 rfl ?_
    subst hQ
    obtain rfl := Option.some.inj h
    exact z_iret cx d_X6_treeSet_16 rfl rfl
  refine y_if_lt cx d_X6_treeSet_7 10 rfl 15 (by decide) rfl h (fun h => ?_) (fun h => ?_)
  · refine z_sub [] rfl ?_
    exact hk_2  h
  · refine z_iload_n cx d_X6_treeSet_10 11 rfl rfl 3 rfl ?_
    refine z_iload_n cx d_X6_treeSet_11 12 rfl rfl 0 rfl ?_
    refine y_icmp_lt cx d_X6_treeSet_12 15 rfl 17 (by decide) rfl rfl h (fun h => ?_) (fun h => ?_)
    · refine z_aload_n cx d_X6_treeSet_17 18 rfl rfl 1 rfl ?_
      refine z_get cx d_X6_treeSet_18 21 rfl e_OT rfl zX6 0 (by decide) q_486 rfl rfl ?_
      refine y_callV_i (As := []) (rest := []) (W := fun u_3 => wX g X N T Rd Fr Ac Ch PS Ly Pa u_1.2 Ea Ga Im0 Im1) (rf := fun u_3 => zI u_3) (rm := zr0) cx (fun _ hq => tN_soundSet hq) d_X6_treeSet_21 24 rfl kk_X5_soundSet q_1135 q_737 q_738 rfl e_N rfl ⟨rfl, rfl⟩ ⟨Nat.le_of_ble_eq_true rfl, Nat.le_of_ble_eq_true rfl⟩ rfl rfl (Nat.le_of_ble_eq_true rfl) ⟨Nat.zero_le _, Nat.zero_le _⟩ h (fun u_3 h => ?_)
      refine y_istore cx d_X6_treeSet_24 26 rfl (by decide) (lv' := [(4, .int (zI u_3)), (3, .int (zI u_1.1)), (0, .ref (g.2.2 82)), (1, .int (zI a1)), (2, .int (zI a2))]) rfl ?_
      refine y_iconst cx d_X6_treeSet_26 27 rfl ?_
      refine y_istore cx d_X6_treeSet_27 29 rfl (by decide) (lv' := [(5, .int (zI 0)), (4, .int (zI u_3)), (3, .int (zI u_1.1)), (0, .ref (g.2.2 82)), (1, .int (zI a1)), (2, .int (zI a2))]) rfl ?_
      refine y_iconst cx d_X6_treeSet_29 30 rfl ?_
      refine y_istore cx d_X6_treeSet_30 32 rfl (by decide) (lv' := [(6, .int (zI 0)), (5, .int (zI 0)), (4, .int (zI u_3)), (3, .int (zI u_1.1)), (0, .ref (g.2.2 82)), (1, .int (zI a1)), (2, .int (zI a2))]) rfl ?_
      refine z_sub [4, 5, 6, 3, 2, 1, 0] rfl ?_
      refine lop4_f (P := fun (v4_4 : Int) (v5_5 : Int) (v6_6 : Int) (OT_7 : ZB) => V p l e zrOT_treeSet s m args below meth c A s.heap g 7 Q (wX g X N T Rd Fr Ac Ch PS Ly Pa OT_7 Ea Ga Im0 Im1) 0 0 [(0, .ref (g.2.2 82)), (1, .int (zI a1)), (2, .int (zI a2)), (3, .int (zI u_1.1)), (4, .int (zI v4_4)), (5, .int (zI v5_5)), (6, .int (zI v6_6))] 32 []) (fun rec_8 hrec_8 v4_4 v5_5 v6_6 OT_7 h => ?_) _ _ _ _ _ h
      refine z_iload cx d_X6_treeSet_32 34 rfl 6 rfl ?_
      refine z_iload_n cx d_X6_treeSet_34 35 rfl rfl 2 rfl ?_
      refine y_icmp_gt cx d_X6_treeSet_35 38 rfl 68 (by decide) rfl rfl h (fun h => ?_) (fun h => ?_)
      · refine z_iload cx d_X6_treeSet_68 70 rfl 5 rfl ?_
        subst hQ
        obtain rfl := Option.some.inj h
        exact z_iret cx d_X6_treeSet_70 rfl rfl
      · refine z_iload cx d_X6_treeSet_38 40 rfl 4 rfl ?_
        refine z_iload cx d_X6_treeSet_40 42 rfl 5 rfl ?_
        refine y_iconst cx d_X6_treeSet_42 43 rfl ?_
        refine y_ixor cx d_X6_treeSet_43 44 rfl ?_
        refine y_iand cx d_X6_treeSet_44 45 rfl ?_
        refine y_istore_b cx d_X6_treeSet_45 47 rfl (by decide) (fun y => [(4, .int (zI y)), (0, .ref (g.2.2 82)), (1, .int (zI a1)), (2, .int (zI a2)), (3, .int (zI u_1.1)), (5, .int (zI v5_5)), (6, .int (zI v6_6))]) (fun y => rfl) h (fun v4_9 h => ?_)
        refine z_aload_n cx d_X6_treeSet_47 48 rfl rfl 1 rfl ?_
        refine z_iload_n cx d_X6_treeSet_48 49 rfl rfl 2 rfl ?_
        refine z_iload cx d_X6_treeSet_49 51 rfl 0 rfl ?_
        refine z_iload_n cx d_X6_treeSet_51 52 rfl rfl 4 rfl ?_
        refine z_iload cx d_X6_treeSet_52 54 rfl 6 rfl ?_
        refine y_isub cx d_X6_treeSet_54 55 rfl ?_
        refine y_iconst cx d_X6_treeSet_55 56 rfl ?_
        refine y_isub cx d_X6_treeSet_56 57 rfl ?_
        refine y_callV_i (As := [.int (zI a1), .int (zI v4_9), .int (zI ((u_1.1 - v6_6) - 1))]) (rest := []) (W := fun u_10 => wX g X N T Rd Fr Ac Ch PS Ly Pa u_10.2 Ea Ga Im0 Im1) (rf := fun u_10 => zI u_10.1) (rm := zrOT_grow) cx (fun _ hq => tOT_grow hq) d_X6_treeSet_57 60 rfl kk_X6_grow q_1136 q_1138 q_31 rfl e_OT rfl ⟨rfl, rfl⟩ ⟨Nat.le_of_ble_eq_true rfl, Nat.le_of_ble_eq_true rfl⟩ rfl rfl (Nat.le_of_ble_eq_true rfl) ⟨Nat.zero_le _, Nat.zero_le _⟩ h (fun u_10 h => ?_)
        refine y_istore cx d_X6_treeSet_60 62 rfl (by decide) (lv' := [(5, .int (zI u_10.1)), (4, .int (zI v4_9)), (0, .ref (g.2.2 82)), (1, .int (zI a1)), (2, .int (zI a2)), (3, .int (zI u_1.1)), (6, .int (zI v6_6))]) rfl ?_
        refine y_iinc cx 6 d_X6_treeSet_62 65 rfl rfl (by decide) (lv' := [(6, .int (zI (v6_6 + 1))), (5, .int (zI u_10.1)), (4, .int (zI v4_9)), (0, .ref (g.2.2 82)), (1, .int (zI a1)), (2, .int (zI a2)), (3, .int (zI u_1.1))]) rfl ?_
        refine z_goto cx d_X6_treeSet_65 32 (by decide) ?_
        refine z_sub [3, 4, 5, 6, 2, 1, 0] rfl ?_
        exact hrec_8 _ _ _ _ h
    · refine z_sub [] rfl ?_
      exact hk_2  h
