-- needs: 10.anet
set_option maxHeartbeats 4000000 in
theorem tCh_goAlong {l : Launch} {g : ZG} {X : ZB} {N : ZB} {T : ZB} {Rd : ZB} {Fr : ZB} {Ac : ZA} {Ch : ZB} {PS : ZB} {Ly : ZB} {Pa : ZQ} {OT : ZB} {Ea : ZB} {Ga : ZB} {Im0 : ZO} {Im1 : ZO} {La : ZB} {a1 : Int} {a2 : Int} {r : Int × ZB} (h : fCh_goAlong N Ch a1 a2 = some r) : zMi l yX1_goAlong cX1_goAlong 8 (some .int) zr0 g [.ref (g.2.2 62), .int (zI a1), .int (zI a2)] (wX g X N T Rd Fr Ac Ch PS Ly Pa OT Ea Ga Im0 Im1 La) (wX g X N T Rd Fr Ac r.2 PS Ly Pa OT Ea Ga Im0 Im1 La) (zI r.1) := by
  unfold fCh_goAlong at h
  refine zMi_q (own := RX1) rfl (by decide +kernel) (Nat.le_of_ble_eq_true rfl) (lv := [(0, .ref (g.2.2 62)), (1, .int (zI a1)), (2, .int (zI a2))]) rfl ⟨rfl, rfl⟩ ?_
  intro p e s m args below meth c A Q hQ cx
  refine z_aload_n cx d_X1_goAlong_0 1 rfl rfl 0 rfl ?_
  refine z_get cx d_X1_goAlong_1 4 rfl e_Ch rfl zX1 0 (by decide) q_263 rfl rfl ?_
  refine z_get cx d_X1_goAlong_4 7 rfl e_N rfl zX5 0 (by decide) q_65 rfl rfl ?_
  refine z_iload_n cx d_X1_goAlong_7 8 rfl rfl 1 rfl ?_
  refine y_ialdx cx d_X1_goAlong_8 9 rfl e_N_first (by decide) h (fun x_1 h => ?_)
  refine y_istore_n cx d_X1_goAlong_9 10 rfl rfl (by decide) (lv' := [(3, .int (zI x_1)), (0, .ref (g.2.2 62)), (1, .int (zI a1)), (2, .int (zI a2))]) rfl ?_
  refine z_aload_n cx d_X1_goAlong_10 11 rfl rfl 1 rfl ?_
  refine z_get cx d_X1_goAlong_11 14 rfl e_Ch rfl zX1 0 (by decide) q_263 rfl rfl ?_
  refine z_get cx d_X1_goAlong_14 17 rfl e_N rfl zX5 1 (by decide) q_69 rfl rfl ?_
  refine z_iload_n cx d_X1_goAlong_17 18 rfl rfl 2 rfl ?_
  refine y_ialdx cx d_X1_goAlong_18 19 rfl e_N_second (by decide) h (fun x_2 h => ?_)
  refine y_istore cx d_X1_goAlong_19 21 rfl (by decide) (lv' := [(4, .int (zI x_2)), (3, .int (zI x_1)), (0, .ref (g.2.2 62)), (1, .int (zI a1)), (2, .int (zI a2))]) rfl ?_
  refine z_iload_n cx d_X1_goAlong_21 22 rfl rfl 4 rfl ?_
  refine z_iload_n cx d_X1_goAlong_22 23 rfl rfl 1 rfl ?_
  refine y_ishr cx d_X1_goAlong_23 24 rfl ?_
  refine y_iconst cx d_X1_goAlong_24 25 rfl ?_
  refine y_iand cx d_X1_goAlong_25 26 rfl ?_
  refine y_istore_b cx d_X1_goAlong_26 28 rfl (by decide) (fun y => [(5, .int (zI y)), (4, .int (zI x_2)), (3, .int (zI x_1)), (0, .ref (g.2.2 62)), (1, .int (zI a1)), (2, .int (zI a2))]) (fun y => rfl) h (fun v5_3 h => ?_)
  refine z_iload cx d_X1_goAlong_28 30 rfl 0 rfl ?_
  refine z_iload_n cx d_X1_goAlong_30 31 rfl rfl 5 rfl ?_
  refine z_iload cx d_X1_goAlong_31 33 rfl 1 rfl ?_
  refine y_ishr cx d_X1_goAlong_33 34 rfl ?_
  refine y_iconst cx d_X1_goAlong_34 35 rfl ?_
  refine y_iand cx d_X1_goAlong_35 36 rfl ?_
  refine y_icmp_ne cx d_X1_goAlong_36 39 rfl 41 (by decide) rfl (nm_zand _ _) h (fun h => ?_) (fun h => ?_)
  · refine z_iload cx d_X1_goAlong_41 43 rfl 0 rfl ?_
    refine y_iconst cx d_X1_goAlong_43 44 rfl ?_
    refine kf1_f (P := fun (w0_4 : Int) => V p l e zr0 s m args below meth c A s.heap g 8 Q (wX g X N T Rd Fr Ac Ch PS Ly Pa OT Ea Ga Im0 Im1 La) 0 0 [(0, .ref (g.2.2 62)), (1, .int (zI a1)), (3, .int (zI x_1)), (4, .int (zI x_2)), (5, .int (zI v5_3))] 53 [.int (zI w0_4)]) h (fun w0_4 h => ?_) (fun k_5 hk_5 h => ?_)
    · refine y_istore cx d_X1_goAlong_53 55 rfl (by decide) (lv' := [(6, .int (zI w0_4)), (0, .ref (g.2.2 62)), (1, .int (zI a1)), (3, .int (zI x_1)), (4, .int (zI x_2)), (5, .int (zI v5_3))]) rfl ?_
      refine z_iload cx d_X1_goAlong_55 57 rfl 5 rfl ?_
      refine y_iconst cx d_X1_goAlong_57 58 rfl ?_
      refine kf1_f (P := fun (w0_6 : Int) => V p l e zr0 s m args below meth c A s.heap g 8 Q (wX g X N T Rd Fr Ac Ch PS Ly Pa OT Ea Ga Im0 Im1 La) 0 0 [(0, .ref (g.2.2 62)), (1, .int (zI a1)), (6, .int (zI w0_4))] 67 [.int (zI w0_6)]) h (fun w0_6 h => ?_) (fun k_7 hk_7 h => ?_)
      · refine y_istore cx d_X1_goAlong_67 69 rfl (by decide) (lv' := [(7, .int (zI w0_6)), (0, .ref (g.2.2 62)), (1, .int (zI a1)), (6, .int (zI w0_4))]) rfl ?_
        refine z_aload_n cx d_X1_goAlong_69 70 rfl rfl 1 rfl ?_
        refine z_get cx d_X1_goAlong_70 73 rfl e_Ch rfl zX1 1 (by decide) q_264 rfl rfl ?_
        refine z_iload cx d_X1_goAlong_73 75 rfl 0 rfl ?_
        refine z_aload_n cx d_X1_goAlong_75 76 rfl rfl 1 rfl ?_
        refine z_get cx d_X1_goAlong_76 79 rfl e_Ch rfl zX1 1 (by decide) q_264 rfl rfl ?_
        refine z_iload cx d_X1_goAlong_79 81 rfl 3 rfl ?_
        refine y_ialdx cx d_X1_goAlong_81 82 rfl e_Ch_wayTo (by decide) h (fun x_8 h => ?_)
        refine y_iconst cx d_X1_goAlong_82 83 rfl ?_
        refine z_iload_n cx d_X1_goAlong_83 84 rfl rfl 2 rfl ?_
        refine y_ishl cx d_X1_goAlong_84 85 rfl ?_
        refine y_ior cx d_X1_goAlong_85 86 rfl ?_
        refine y_iast cx d_X1_goAlong_86 87 rfl e_Ch_wayTo (by decide) h (fun _ h9 => s_Ch_wayTo h9) (fun Ch_9 h => ?_)
        refine y_iconst cx d_X1_goAlong_87 88 rfl ?_
        refine z_iload cx d_X1_goAlong_88 90 rfl 0 rfl ?_
        refine y_ishl cx d_X1_goAlong_90 91 rfl ?_
        subst hQ
        obtain rfl := Option.some.inj h
        exact z_iret cx d_X1_goAlong_91 rfl rfl
      refine y_icmp_ne cx d_X1_goAlong_58 61 rfl 66 (by decide) rfl (nm_eq (x := 1) (by decide) (by decide)) h (fun h => ?_) (fun h => ?_)
      · refine z_iload_n cx d_X1_goAlong_66 67 rfl rfl 3 rfl ?_
        refine z_sub [1, 2, 0] rfl ?_
        exact hk_7 _ h
      · refine z_iload cx d_X1_goAlong_61 63 rfl 4 rfl ?_
        refine z_goto cx d_X1_goAlong_63 67 (by decide) ?_
        refine z_sub [1, 2, 0] rfl ?_
        exact hk_7 _ h
    refine y_icmp_ne cx d_X1_goAlong_44 47 rfl 51 (by decide) rfl (nm_eq (x := 1) (by decide) (by decide)) h (fun h => ?_) (fun h => ?_)
    · refine z_iload cx d_X1_goAlong_51 53 rfl 1 rfl ?_
      refine z_sub [3, 4, 2, 1, 0] rfl ?_
      exact hk_5 _ h
    · refine z_iload_n cx d_X1_goAlong_47 48 rfl rfl 2 rfl ?_
      refine z_goto cx d_X1_goAlong_48 53 (by decide) ?_
      refine z_sub [3, 4, 2, 1, 0] rfl ?_
      exact hk_5 _ h
  · refine y_iconst cx d_X1_goAlong_39 40 rfl ?_
    subst hQ
    obtain rfl := Option.some.inj h
    exact z_iret cx d_X1_goAlong_40 rfl rfl
def zrCh_ringOf : Room := { frames := 1, cells := 0, slots := 0, locals := 27 }
set_option maxHeartbeats 4000000 in
theorem tCh_ringOf {l : Launch} {g : ZG} {X : ZB} {N : ZB} {T : ZB} {Rd : ZB} {Fr : ZB} {Ac : ZA} {Ch : ZB} {PS : ZB} {Ly : ZB} {Pa : ZQ} {OT : ZB} {Ea : ZB} {Ga : ZB} {Im0 : ZO} {Im1 : ZO} {La : ZB} {a1 : Int} {a2 : Int} {r : Int × ZB} (h : fCh_ringOf N Ch a1 a2 = some r) : zMi l yX1_ringOf cX1_ringOf 8 (some .int) zrCh_ringOf g [.ref (g.2.2 62), .int (zI a1), .int (zI a2)] (wX g X N T Rd Fr Ac Ch PS Ly Pa OT Ea Ga Im0 Im1 La) (wX g X N T Rd Fr Ac r.2 PS Ly Pa OT Ea Ga Im0 Im1 La) (zI r.1) := by
  unfold fCh_ringOf at h
  refine zMi_q (own := RX1) rfl (by decide +kernel) (Nat.le_of_ble_eq_true rfl) (lv := [(0, .ref (g.2.2 62)), (1, .int (zI a1)), (2, .int (zI a2))]) rfl ⟨rfl, rfl⟩ ?_
  intro p e s m args below meth c A Q hQ cx
  refine z_aload_n cx d_X1_ringOf_0 1 rfl rfl 0 rfl ?_
  refine z_get cx d_X1_ringOf_1 4 rfl e_Ch rfl zX1 0 (by decide) q_263 rfl rfl ?_
  refine z_get cx d_X1_ringOf_4 7 rfl e_N rfl zX5 1 (by decide) q_69 rfl rfl ?_
  refine z_iload_n cx d_X1_ringOf_7 8 rfl rfl 1 rfl ?_
  refine y_ialdx cx d_X1_ringOf_8 9 rfl e_N_second (by decide) h (fun x_1 h => ?_)
  refine y_istore_n cx d_X1_ringOf_9 10 rfl rfl (by decide) (lv' := [(3, .int (zI x_1)), (0, .ref (g.2.2 62)), (1, .int (zI a1)), (2, .int (zI a2))]) rfl ?_
  refine y_iconst cx d_X1_ringOf_10 11 rfl ?_
  refine z_aload_n cx d_X1_ringOf_11 12 rfl rfl 1 rfl ?_
  refine z_get cx d_X1_ringOf_12 15 rfl e_Ch rfl zX1 0 (by decide) q_263 rfl rfl ?_
  refine z_get cx d_X1_ringOf_15 18 rfl e_N rfl zX5 0 (by decide) q_65 rfl rfl ?_
  refine z_iload_n cx d_X1_ringOf_18 19 rfl rfl 2 rfl ?_
  refine y_ialdx cx d_X1_ringOf_19 20 rfl e_N_first (by decide) h (fun x_2 h => ?_)
  refine y_ishl cx d_X1_ringOf_20 21 rfl ?_
  refine y_istore_b cx d_X1_ringOf_21 23 rfl (by decide) (fun y => [(4, .int (zI y)), (3, .int (zI x_1)), (0, .ref (g.2.2 62)), (1, .int (zI a1)), (2, .int (zI a2))]) (fun y => rfl) h (fun v4_3 h => ?_)
  refine z_aload_n cx d_X1_ringOf_23 24 rfl rfl 2 rfl ?_
  refine z_get cx d_X1_ringOf_24 27 rfl e_Ch rfl zX1 1 (by decide) q_264 rfl rfl ?_
  refine z_aload_n cx d_X1_ringOf_27 28 rfl rfl 2 rfl ?_
  refine z_get cx d_X1_ringOf_28 31 rfl e_Ch rfl zX1 0 (by decide) q_263 rfl rfl ?_
  refine z_get cx d_X1_ringOf_31 34 rfl e_N rfl zX5 0 (by decide) q_65 rfl rfl ?_
  refine z_iload_n cx d_X1_ringOf_34 35 rfl rfl 3 rfl ?_
  refine y_ialdx cx d_X1_ringOf_35 36 rfl e_N_first (by decide) h (fun x_4 h => ?_)
  refine y_iconst cx d_X1_ringOf_36 37 rfl ?_
  refine y_iast cx d_X1_ringOf_37 38 rfl e_Ch_wayTo (by decide) h (fun _ h9 => s_Ch_wayTo h9) (fun Ch_5 h => ?_)
  refine y_iconst cx d_X1_ringOf_38 39 rfl ?_
  refine y_istore cx d_X1_ringOf_39 41 rfl (by decide) (lv' := [(5, .int (zI 0)), (4, .int (zI v4_3)), (3, .int (zI x_1)), (0, .ref (g.2.2 62)), (1, .int (zI a1)), (2, .int (zI a2))]) rfl ?_
  refine z_sub [3, 5, 2, 1, 0] rfl ?_
  refine lop3_f (P := fun (v4_6 : Int) (v5_7 : Int) (Ch_8 : ZB) => V p l e zrCh_ringOf s m args below meth c A s.heap g 8 Q (wX g X N T Rd Fr Ac Ch_8 PS Ly Pa OT Ea Ga Im0 Im1 La) 0 0 [(0, .ref (g.2.2 62)), (2, .int (zI a2)), (3, .int (zI x_1)), (4, .int (zI v4_6)), (5, .int (zI v5_7))] 41 []) (fun rec_9 hrec_9 v4_6 v5_7 Ch_8 h => ?_) _ _ _ _ h
  refine z_iload cx d_X1_ringOf_41 43 rfl 4 rfl ?_
  refine z_aload_n cx d_X1_ringOf_43 44 rfl rfl 0 rfl ?_
  refine z_get cx d_X1_ringOf_44 47 rfl e_Ch rfl zX1 0 (by decide) q_263 rfl rfl ?_
  refine z_get cx d_X1_ringOf_47 50 rfl e_N rfl zX5 4 (by decide) q_77 rfl rfl ?_
  refine kf2_f (P := fun (v4_10 : Int) (Ch_11 : ZB) => V p l e zrCh_ringOf s m args below meth c A s.heap g 8 Q (wX g X N T Rd Fr Ac Ch_11 PS Ly Pa OT Ea Ga Im0 Im1 La) 0 0 [(0, .ref (g.2.2 62)), (3, .int (zI x_1)), (4, .int (zI v4_10))] 130 []) h (fun v4_10 Ch_11 h => ?_) (fun k_12 hk_12 h => ?_)
  · refine z_iload cx d_X1_ringOf_130 132 rfl 2 rfl ?_
    refine z_iload_n cx d_X1_ringOf_132 133 rfl rfl 1 rfl ?_
    refine y_ishr cx d_X1_ringOf_133 134 rfl ?_
    refine y_iconst cx d_X1_ringOf_134 135 rfl ?_
    refine y_iand cx d_X1_ringOf_135 136 rfl ?_
    refine kf1_f (P := fun (w0_13 : Int) => V p l e zrCh_ringOf s m args below meth c A s.heap g 8 Q (wX g X N T Rd Fr Ac Ch_11 PS Ly Pa OT Ea Ga Im0 Im1 La) 0 0 [] 149 [.int (zI w0_13)]) h (fun w0_13 h => ?_) (fun k_14 hk_14 h => ?_)
    · subst hQ
      obtain rfl := Option.some.inj h
      exact z_iret cx d_X1_ringOf_149 rfl rfl
    refine y_if_eq cx d_X1_ringOf_136 139 rfl 148 (by decide) (nm_zand _ _) h (fun h => ?_) (fun h => ?_)
    · refine y_iconst cx d_X1_ringOf_148 149 rfl ?_
      refine z_sub [] rfl ?_
      exact hk_14 _ h
    · refine z_aload_n cx d_X1_ringOf_139 140 rfl rfl 0 rfl ?_
      refine z_get cx d_X1_ringOf_140 143 rfl e_Ch rfl zX1 1 (by decide) q_264 rfl rfl ?_
      refine z_iload_n cx d_X1_ringOf_143 144 rfl rfl 1 rfl ?_
      refine y_ialdx cx d_X1_ringOf_144 145 rfl e_Ch_wayTo (by decide) h (fun x_15 h => ?_)
      refine z_goto cx d_X1_ringOf_145 149 (by decide) ?_
      refine z_sub [] rfl ?_
      exact hk_14 _ h
  refine y_icmp_ge cx d_X1_ringOf_50 53 rfl 130 (by decide) rfl rfl h (fun h => ?_) (fun h => ?_)
  · refine z_sub [0, 2, 3] rfl ?_
    exact hk_12 _ _ h
  · refine z_iload cx d_X1_ringOf_53 55 rfl 3 rfl ?_
    refine y_istore cx d_X1_ringOf_55 57 rfl (by decide) (lv' := [(6, .int (zI v4_6)), (0, .ref (g.2.2 62)), (2, .int (zI a2)), (3, .int (zI x_1)), (4, .int (zI v4_6)), (5, .int (zI v5_7))]) rfl ?_
    refine y_iconst cx d_X1_ringOf_57 58 rfl ?_
    refine y_istore cx d_X1_ringOf_58 60 rfl (by decide) (lv' := [(7, .int (zI 0)), (6, .int (zI v4_6)), (0, .ref (g.2.2 62)), (2, .int (zI a2)), (3, .int (zI x_1)), (4, .int (zI v4_6)), (5, .int (zI v5_7))]) rfl ?_
    refine z_sub [2, 3, 4, 5, 6, 1, 0] rfl ?_
    refine lop3_f (P := fun (v4_16 : Int) (v7_17 : Int) (Ch_18 : ZB) => V p l e zrCh_ringOf s m args below meth c A s.heap g 8 Q (wX g X N T Rd Fr Ac Ch_18 PS Ly Pa OT Ea Ga Im0 Im1 La) 0 0 [(0, .ref (g.2.2 62)), (2, .int (zI a2)), (3, .int (zI x_1)), (4, .int (zI v4_16)), (5, .int (zI v5_7)), (6, .int (zI v4_6)), (7, .int (zI v7_17))] 60 []) (fun rec_19 hrec_19 v4_16 v7_17 Ch_18 h => ?_) _ _ _ _ h
    refine z_iload cx d_X1_ringOf_60 62 rfl 6 rfl ?_
    refine z_aload_n cx d_X1_ringOf_62 63 rfl rfl 0 rfl ?_
    refine z_get cx d_X1_ringOf_63 66 rfl e_Ch rfl zX1 0 (by decide) q_263 rfl rfl ?_
    refine z_get cx d_X1_ringOf_66 69 rfl e_N rfl zX5 5 (by decide) q_83 rfl rfl ?_
    refine y_icmp_ge cx d_X1_ringOf_69 72 rfl 105 (by decide) rfl rfl h (fun h => ?_) (fun h => ?_)
    · refine z_iload cx d_X1_ringOf_105 107 rfl 3 rfl ?_
      refine z_iload cx d_X1_ringOf_107 109 rfl 5 rfl ?_
      refine y_icmp_eq cx d_X1_ringOf_109 112 rfl 130 (by decide) rfl rfl h (fun h => ?_) (fun h => ?_)
      · refine z_sub [0, 2, 3] rfl ?_
        exact hk_12 _ _ h
      · refine z_iload cx d_X1_ringOf_112 114 rfl 3 rfl ?_
        refine z_iload_n cx d_X1_ringOf_114 115 rfl rfl 2 rfl ?_
        refine y_ishr cx d_X1_ringOf_115 116 rfl ?_
        refine y_iconst cx d_X1_ringOf_116 117 rfl ?_
        refine y_iand cx d_X1_ringOf_117 118 rfl ?_
        refine y_if_eq cx d_X1_ringOf_118 121 rfl 124 (by decide) (nm_zand _ _) h (fun h => ?_) (fun h => ?_)
        · refine y_iinc cx 4 d_X1_ringOf_124 127 rfl rfl (by decide) (lv' := [(5, .int (zI (v5_7 + 1))), (0, .ref (g.2.2 62)), (2, .int (zI a2)), (3, .int (zI x_1)), (4, .int (zI v4_16)), (6, .int (zI v4_6)), (7, .int (zI v7_17))]) rfl ?_
          refine z_goto cx d_X1_ringOf_127 41 (by decide) ?_
          refine z_sub [1, 2, 3, 4, 0] rfl ?_
          exact hrec_9 _ _ _ h
        · refine z_goto cx d_X1_ringOf_121 130 (by decide) ?_
          refine z_sub [0, 2, 3] rfl ?_
          exact hk_12 _ _ h
    · refine z_aload_n cx d_X1_ringOf_72 73 rfl rfl 0 rfl ?_
      refine z_get cx d_X1_ringOf_73 76 rfl e_Ch rfl zX1 0 (by decide) q_263 rfl rfl ?_
      refine z_get cx d_X1_ringOf_76 79 rfl e_N rfl zX5 3 (by decide) q_75 rfl rfl ?_
      refine z_iload cx d_X1_ringOf_79 81 rfl 6 rfl ?_
      refine y_ialdx cx d_X1_ringOf_81 82 rfl e_N_home (by decide) h (fun x_20 h => ?_)
      refine z_iload_n cx d_X1_ringOf_82 83 rfl rfl 1 rfl ?_
      refine kf2_f (P := fun (v4_21 : Int) (Ch_22 : ZB) => V p l e zrCh_ringOf s m args below meth c A s.heap g 8 Q (wX g X N T Rd Fr Ac Ch_22 PS Ly Pa OT Ea Ga Im0 Im1 La) 0 0 [(0, .ref (g.2.2 62)), (2, .int (zI a2)), (3, .int (zI x_1)), (4, .int (zI v4_21)), (5, .int (zI v5_7)), (6, .int (zI v4_6)), (7, .int (zI v7_17))] 99 []) h (fun v4_21 Ch_22 h => ?_) (fun k_23 hk_23 h => ?_)
      · refine y_iinc cx 6 d_X1_ringOf_99 102 rfl rfl (by decide) (lv' := [(7, .int (zI (v7_17 + 1))), (0, .ref (g.2.2 62)), (2, .int (zI a2)), (3, .int (zI x_1)), (4, .int (zI v4_21)), (5, .int (zI v5_7)), (6, .int (zI v4_6))]) rfl ?_
        refine z_goto cx d_X1_ringOf_102 60 (by decide) ?_
        refine z_sub [1, 2, 3, 4, 5, 6, 0] rfl ?_
        exact hrec_19 _ _ _ h
      refine y_icmp_ne cx d_X1_ringOf_83 86 rfl 99 (by decide) rfl rfl h (fun h => ?_) (fun h => ?_)
      · exact hk_23 _ _ h
      · refine z_iload cx d_X1_ringOf_86 88 rfl 3 rfl ?_
        refine z_aload_n cx d_X1_ringOf_88 89 rfl rfl 0 rfl ?_
        refine z_iload cx d_X1_ringOf_89 91 rfl 6 rfl ?_
        refine z_iload cx d_X1_ringOf_91 93 rfl 3 rfl ?_
        refine y_callV_i (As := [.int (zI v7_17), .int (zI v4_16)]) (rest := [.int (zI v4_16)]) (W := fun u_24 => wX g X N T Rd Fr Ac u_24.2 PS Ly Pa OT Ea Ga Im0 Im1 La) (rf := fun u_24 => zI u_24.1) (rm := zr0) cx (fun _ hq => tCh_goAlong hq) d_X1_ringOf_93 96 rfl kk_X1_goAlong q_503 q_505 q_1 rfl e_Ch rfl ⟨rfl, rfl⟩ ⟨Nat.le_of_ble_eq_true rfl, Nat.le_of_ble_eq_true rfl⟩ rfl rfl (Nat.le_of_ble_eq_true rfl) ⟨Nat.zero_le _, Nat.zero_le _⟩ h (fun u_24 h => ?_)
        refine y_ior cx d_X1_ringOf_96 97 rfl ?_
        refine y_istore_b cx d_X1_ringOf_97 99 rfl (by decide) (fun y => [(4, .int (zI y)), (0, .ref (g.2.2 62)), (2, .int (zI a2)), (3, .int (zI x_1)), (5, .int (zI v5_7)), (6, .int (zI v4_6)), (7, .int (zI v7_17))]) (fun y => rfl) h (fun v4_25 h => ?_)
        refine z_sub [1, 2, 3, 0, 4, 5, 6] rfl ?_
        exact hk_23 _ _ h
def zrCh_freeForest : Room := { frames := 2, cells := 0, slots := 0, locals := 54 }
set_option maxHeartbeats 4000000 in
theorem tCh_freeForest {l : Launch} {g : ZG} {X : ZB} {N : ZB} {T : ZB} {Rd : ZB} {Fr : ZB} {Ac : ZA} {Ch : ZB} {PS : ZB} {Ly : ZB} {Pa : ZQ} {OT : ZB} {Ea : ZB} {Ga : ZB} {Im0 : ZO} {Im1 : ZO} {La : ZB} {a1 : Int} {r : Int × ZB} (h : fCh_freeForest N Ch a1 = some r) : zMi l yX1_freeForest cX1_freeForest 3 (some .int) zrCh_freeForest g [.ref (g.2.2 62), .int (zI a1)] (wX g X N T Rd Fr Ac Ch PS Ly Pa OT Ea Ga Im0 Im1 La) (wX g X N T Rd Fr Ac r.2 PS Ly Pa OT Ea Ga Im0 Im1 La) (zI r.1) := by
  unfold fCh_freeForest at h
  refine zMi_q (own := RX1) rfl (by decide +kernel) (Nat.le_of_ble_eq_true rfl) (lv := [(0, .ref (g.2.2 62)), (1, .int (zI a1))]) rfl ⟨rfl, rfl⟩ ?_
  intro p e s m args below meth c A Q hQ cx
  refine y_iconst cx d_X1_freeForest_0 1 rfl ?_
  refine y_istore_n cx d_X1_freeForest_1 2 rfl rfl (by decide) (lv' := [(2, .int (zI 0)), (0, .ref (g.2.2 62)), (1, .int (zI a1))]) rfl ?_
  refine z_sub [1, 2, 0] rfl ?_
  refine lop2_f (P := fun (v2_1 : Int) (Ch_2 : ZB) => V p l e zrCh_freeForest s m args below meth c A s.heap g 3 Q (wX g X N T Rd Fr Ac Ch_2 PS Ly Pa OT Ea Ga Im0 Im1 La) 0 0 [(0, .ref (g.2.2 62)), (1, .int (zI a1)), (2, .int (zI v2_1))] 2 []) (fun rec_3 hrec_3 v2_1 Ch_2 h => ?_) _ _ _ h
  refine z_iload_n cx d_X1_freeForest_2 3 rfl rfl 2 rfl ?_
  refine z_aload_n cx d_X1_freeForest_3 4 rfl rfl 0 rfl ?_
  refine z_get cx d_X1_freeForest_4 7 rfl e_Ch rfl zX1 0 (by decide) q_263 rfl rfl ?_
  refine z_get cx d_X1_freeForest_7 10 rfl e_N rfl zX5 6 (by decide) q_89 rfl rfl ?_
  refine y_icmp_ge cx d_X1_freeForest_10 13 rfl 43 (by decide) rfl rfl h (fun h => ?_) (fun h => ?_)
  · refine y_iconst cx d_X1_freeForest_43 44 rfl ?_
    subst hQ
    obtain rfl := Option.some.inj h
    exact z_iret cx d_X1_freeForest_44 rfl rfl
  · refine z_aload_n cx d_X1_freeForest_13 14 rfl rfl 0 rfl ?_
    refine z_get cx d_X1_freeForest_14 17 rfl e_Ch rfl zX1 0 (by decide) q_263 rfl rfl ?_
    refine z_get cx d_X1_freeForest_17 20 rfl e_N rfl zX5 3 (by decide) q_75 rfl rfl ?_
    refine z_iload_n cx d_X1_freeForest_20 21 rfl rfl 1 rfl ?_
    refine y_ialdx cx d_X1_freeForest_21 22 rfl e_N_home (by decide) h (fun x_4 h => ?_)
    refine z_iload_n cx d_X1_freeForest_22 23 rfl rfl 2 rfl ?_
    refine kf1_f (P := fun (Ch_5 : ZB) => V p l e zrCh_freeForest s m args below meth c A s.heap g 3 Q (wX g X N T Rd Fr Ac Ch_5 PS Ly Pa OT Ea Ga Im0 Im1 La) 0 0 [(0, .ref (g.2.2 62)), (1, .int (zI a1)), (2, .int (zI v2_1))] 37 []) h (fun Ch_5 h => ?_) (fun k_6 hk_6 h => ?_)
    · refine y_iinc cx 2 d_X1_freeForest_37 40 rfl rfl (by decide) (lv' := [(2, .int (zI (v2_1 + 1))), (0, .ref (g.2.2 62)), (1, .int (zI a1))]) rfl ?_
      refine z_goto cx d_X1_freeForest_40 2 (by decide) ?_
      refine z_sub [1, 2, 0] rfl ?_
      exact hrec_3 _ _ h
    refine y_icmp_eq cx d_X1_freeForest_23 26 rfl 37 (by decide) rfl rfl h (fun h => ?_) (fun h => ?_)
    · exact hk_6 _ h
    · refine z_aload_n cx d_X1_freeForest_26 27 rfl rfl 0 rfl ?_
      refine z_iload_n cx d_X1_freeForest_27 28 rfl rfl 1 rfl ?_
      refine z_iload_n cx d_X1_freeForest_28 29 rfl rfl 2 rfl ?_
      refine y_callV_i (As := [.int (zI a1), .int (zI v2_1)]) (rest := []) (W := fun u_7 => wX g X N T Rd Fr Ac u_7.2 PS Ly Pa OT Ea Ga Im0 Im1 La) (rf := fun u_7 => zI u_7.1) (rm := zrCh_ringOf) cx (fun _ hq => tCh_ringOf hq) d_X1_freeForest_29 32 rfl kk_X1_ringOf q_542 q_500 q_501 rfl e_Ch rfl ⟨rfl, rfl⟩ ⟨Nat.le_of_ble_eq_true rfl, Nat.le_of_ble_eq_true rfl⟩ rfl rfl (Nat.le_of_ble_eq_true rfl) ⟨Nat.zero_le _, Nat.zero_le _⟩ h (fun u_7 h => ?_)
      refine y_if_ne cx d_X1_freeForest_32 35 rfl 37 (by decide) rfl h (fun h => ?_) (fun h => ?_)
      · exact hk_6 _ h
      · refine z_iload_n cx d_X1_freeForest_35 36 rfl rfl 2 rfl ?_
        subst hQ
        obtain rfl := Option.some.inj h
        exact z_iret cx d_X1_freeForest_36 rfl rfl
def zrCh_allRings : Room := { frames := 2, cells := 0, slots := 0, locals := 54 }
set_option maxHeartbeats 4000000 in
theorem tCh_allRings {l : Launch} {g : ZG} {X : ZB} {N : ZB} {T : ZB} {Rd : ZB} {Fr : ZB} {Ac : ZA} {Ch : ZB} {PS : ZB} {Ly : ZB} {Pa : ZQ} {OT : ZB} {Ea : ZB} {Ga : ZB} {Im0 : ZO} {Im1 : ZO} {La : ZB} {a1 : Int} {r : Int × ZB} (h : fCh_allRings N Ch a1 = some r) : zMi l yX1_allRings cX1_allRings 4 (some .int) zrCh_allRings g [.ref (g.2.2 62), .int (zI a1)] (wX g X N T Rd Fr Ac Ch PS Ly Pa OT Ea Ga Im0 Im1 La) (wX g X N T Rd Fr Ac r.2 PS Ly Pa OT Ea Ga Im0 Im1 La) (zI r.1) := by
  unfold fCh_allRings at h
  refine zMi_q (own := RX1) rfl (by decide +kernel) (Nat.le_of_ble_eq_true rfl) (lv := [(0, .ref (g.2.2 62)), (1, .int (zI a1))]) rfl ⟨rfl, rfl⟩ ?_
  intro p e s m args below meth c A Q hQ cx
  refine y_iconst cx d_X1_allRings_0 1 rfl ?_
  refine y_istore_n cx d_X1_allRings_1 2 rfl rfl (by decide) (lv' := [(2, .int (zI 0)), (0, .ref (g.2.2 62)), (1, .int (zI a1))]) rfl ?_
  refine y_iconst cx d_X1_allRings_2 3 rfl ?_
  refine y_istore_n cx d_X1_allRings_3 4 rfl rfl (by decide) (lv' := [(3, .int (zI 0)), (2, .int (zI 0)), (0, .ref (g.2.2 62)), (1, .int (zI a1))]) rfl ?_
  refine z_sub [2, 3, 1, 0] rfl ?_
  refine lop3_f (P := fun (v2_1 : Int) (v3_2 : Int) (Ch_3 : ZB) => V p l e zrCh_allRings s m args below meth c A s.heap g 4 Q (wX g X N T Rd Fr Ac Ch_3 PS Ly Pa OT Ea Ga Im0 Im1 La) 0 0 [(0, .ref (g.2.2 62)), (1, .int (zI a1)), (2, .int (zI v2_1)), (3, .int (zI v3_2))] 4 []) (fun rec_4 hrec_4 v2_1 v3_2 Ch_3 h => ?_) _ _ _ _ h
  refine z_iload_n cx d_X1_allRings_4 5 rfl rfl 3 rfl ?_
  refine z_aload_n cx d_X1_allRings_5 6 rfl rfl 0 rfl ?_
  refine z_get cx d_X1_allRings_6 9 rfl e_Ch rfl zX1 0 (by decide) q_263 rfl rfl ?_
  refine z_get cx d_X1_allRings_9 12 rfl e_N rfl zX5 6 (by decide) q_89 rfl rfl ?_
  refine y_icmp_ge cx d_X1_allRings_12 15 rfl 43 (by decide) rfl rfl h (fun h => ?_) (fun h => ?_)
  · refine z_iload_n cx d_X1_allRings_43 44 rfl rfl 2 rfl ?_
    subst hQ
    obtain rfl := Option.some.inj h
    exact z_iret cx d_X1_allRings_44 rfl rfl
  · refine z_aload_n cx d_X1_allRings_15 16 rfl rfl 0 rfl ?_
    refine z_get cx d_X1_allRings_16 19 rfl e_Ch rfl zX1 0 (by decide) q_263 rfl rfl ?_
    refine z_get cx d_X1_allRings_19 22 rfl e_N rfl zX5 3 (by decide) q_75 rfl rfl ?_
    refine z_iload_n cx d_X1_allRings_22 23 rfl rfl 1 rfl ?_
    refine y_ialdx cx d_X1_allRings_23 24 rfl e_N_home (by decide) h (fun x_5 h => ?_)
    refine z_iload_n cx d_X1_allRings_24 25 rfl rfl 3 rfl ?_
    refine kf2_f (P := fun (v2_6 : Int) (Ch_7 : ZB) => V p l e zrCh_allRings s m args below meth c A s.heap g 4 Q (wX g X N T Rd Fr Ac Ch_7 PS Ly Pa OT Ea Ga Im0 Im1 La) 0 0 [(0, .ref (g.2.2 62)), (1, .int (zI a1)), (2, .int (zI v2_6)), (3, .int (zI v3_2))] 37 []) h (fun v2_6 Ch_7 h => ?_) (fun k_8 hk_8 h => ?_)
    · refine y_iinc cx 3 d_X1_allRings_37 40 rfl rfl (by decide) (lv' := [(3, .int (zI (v3_2 + 1))), (0, .ref (g.2.2 62)), (1, .int (zI a1)), (2, .int (zI v2_6))]) rfl ?_
      refine z_goto cx d_X1_allRings_40 4 (by decide) ?_
      refine z_sub [1, 2, 3, 0] rfl ?_
      exact hrec_4 _ _ _ h
    refine y_icmp_eq cx d_X1_allRings_25 28 rfl 37 (by decide) rfl rfl h (fun h => ?_) (fun h => ?_)
    · exact hk_8 _ _ h
    · refine z_iload_n cx d_X1_allRings_28 29 rfl rfl 2 rfl ?_
      refine z_aload_n cx d_X1_allRings_29 30 rfl rfl 0 rfl ?_
      refine z_iload_n cx d_X1_allRings_30 31 rfl rfl 1 rfl ?_
      refine z_iload_n cx d_X1_allRings_31 32 rfl rfl 3 rfl ?_
      refine y_callV_i (As := [.int (zI a1), .int (zI v3_2)]) (rest := [.int (zI v2_1)]) (W := fun u_9 => wX g X N T Rd Fr Ac u_9.2 PS Ly Pa OT Ea Ga Im0 Im1 La) (rf := fun u_9 => zI u_9.1) (rm := zrCh_ringOf) cx (fun _ hq => tCh_ringOf hq) d_X1_allRings_32 35 rfl kk_X1_ringOf q_542 q_500 q_501 rfl e_Ch rfl ⟨rfl, rfl⟩ ⟨Nat.le_of_ble_eq_true rfl, Nat.le_of_ble_eq_true rfl⟩ rfl rfl (Nat.le_of_ble_eq_true rfl) ⟨Nat.zero_le _, Nat.zero_le _⟩ h (fun u_9 h => ?_)
      refine y_ior cx d_X1_allRings_35 36 rfl ?_
      refine y_istore_n_b cx d_X1_allRings_36 37 rfl rfl (by decide) (fun y => [(2, .int (zI y)), (0, .ref (g.2.2 62)), (1, .int (zI a1)), (3, .int (zI v3_2))]) (fun y => rfl) h (fun v2_10 h => ?_)
      refine z_sub [1, 2, 0, 3] rfl ?_
      exact hk_8 _ _ h
set_option maxHeartbeats 4000000 in
theorem tCh_writeDown {l : Launch} {g : ZG} {X : ZB} {N : ZB} {T : ZB} {Rd : ZB} {Fr : ZB} {Ac : ZA} {Ch : ZB} {PS : ZB} {Ly : ZB} {Pa : ZQ} {OT : ZB} {Ea : ZB} {Ga : ZB} {Im0 : ZO} {Im1 : ZO} {La : ZB} {a1 : Int} {a2 : Int} {r : ZB} (h : fCh_writeDown N Ch a1 a2 = some r) : zMv l yX1_writeDown cX1_writeDown 6 none zr0 g [.ref (g.2.2 62), .int (zI a1), .int (zI a2)] (wX g X N T Rd Fr Ac Ch PS Ly Pa OT Ea Ga Im0 Im1 La) (wX g X N T Rd Fr Ac r PS Ly Pa OT Ea Ga Im0 Im1 La) := by
  unfold fCh_writeDown at h
  refine zMv_q (own := RX1) rfl (by decide +kernel) (Nat.le_of_ble_eq_true rfl) (lv := [(0, .ref (g.2.2 62)), (1, .int (zI a1)), (2, .int (zI a2))]) rfl ⟨rfl, rfl⟩ ?_
  intro p e s m args below meth c A Q hQ cx
  refine z_iload_n cx d_X1_writeDown_0 1 rfl rfl 1 rfl ?_
  refine y_istore_n cx d_X1_writeDown_1 2 rfl rfl (by decide) (lv' := [(3, .int (zI a1)), (0, .ref (g.2.2 62)), (1, .int (zI a1)), (2, .int (zI a2))]) rfl ?_
  refine z_sub [1, 2, 3, 0] rfl ?_
  refine lop2_f (P := fun (v3_1 : Int) (Ch_2 : ZB) => V p l e zr0 s m args below meth c A s.heap g 6 Q (wX g X N T Rd Fr Ac Ch_2 PS Ly Pa OT Ea Ga Im0 Im1 La) 0 0 [(0, .ref (g.2.2 62)), (1, .int (zI a1)), (2, .int (zI a2)), (3, .int (zI v3_1))] 2 []) (fun rec_3 hrec_3 v3_1 Ch_2 h => ?_) _ _ _ h
  refine z_iload_n cx d_X1_writeDown_2 3 rfl rfl 3 rfl ?_
  refine kf0_f (P := V p l e zr0 s m args below meth c A s.heap g 6 Q (wX g X N T Rd Fr Ac Ch_2 PS Ly Pa OT Ea Ga Im0 Im1 La) 0 0 [(0, .ref (g.2.2 62)), (1, .int (zI a1)), (2, .int (zI a2))] 35 []) h (fun h => ?_) (fun k_4 hk_4 h => ?_)
  · refine z_iload_n cx d_X1_writeDown_35 36 rfl rfl 1 rfl ?_
    refine y_istore_n cx d_X1_writeDown_36 37 rfl rfl (by decide) (lv' := [(3, .int (zI a1)), (0, .ref (g.2.2 62)), (1, .int (zI a1)), (2, .int (zI a2))]) rfl ?_
    refine z_iload_n cx d_X1_writeDown_37 38 rfl rfl 3 rfl ?_
    refine y_istore cx d_X1_writeDown_38 40 rfl (by decide) (lv' := [(4, .int (zI a2)), (3, .int (zI a1)), (0, .ref (g.2.2 62)), (1, .int (zI a1)), (2, .int (zI a2))]) rfl ?_
    refine z_aload_n cx d_X1_writeDown_40 41 rfl rfl 2 rfl ?_
    refine z_get cx d_X1_writeDown_41 44 rfl e_Ch rfl zX1 6 (by decide) q_269 rfl rfl ?_
    refine y_iconst cx d_X1_writeDown_44 45 rfl ?_
    refine y_isub cx d_X1_writeDown_45 46 rfl ?_
    refine y_istore_b cx d_X1_writeDown_46 48 rfl (by decide) (fun y => [(5, .int (zI y)), (4, .int (zI a2)), (3, .int (zI a1)), (0, .ref (g.2.2 62)), (1, .int (zI a1)), (2, .int (zI a2))]) (fun y => rfl) h (fun v5_5 h => ?_)
    refine z_sub [3, 2, 1, 0] rfl ?_
    refine lop4_f (P := fun (v3_6 : Int) (v4_7 : Int) (v5_8 : Int) (Ch_9 : ZB) => V p l e zr0 s m args below meth c A s.heap g 6 Q (wX g X N T Rd Fr Ac Ch_9 PS Ly Pa OT Ea Ga Im0 Im1 La) 0 0 [(0, .ref (g.2.2 62)), (3, .int (zI v3_6)), (4, .int (zI v4_7)), (5, .int (zI v5_8))] 48 []) (fun rec_10 hrec_10 v3_6 v4_7 v5_8 Ch_9 h => ?_) _ _ _ _ _ h
    refine z_iload cx d_X1_writeDown_48 50 rfl 3 rfl ?_
    refine kf0_f (P := V p l e zr0 s m args below meth c A s.heap g 6 Q (wX g X N T Rd Fr Ac Ch_9 PS Ly Pa OT Ea Ga Im0 Im1 La) 0 0 [] 108 []) h (fun h => ?_) (fun k_11 hk_11 h => ?_)
    · subst hQ
      obtain rfl := Option.some.inj h
      exact z_vret cx d_X1_writeDown_108 rfl
    refine y_if_lt cx d_X1_writeDown_50 53 rfl 108 (by decide) rfl h (fun h => ?_) (fun h => ?_)
    · refine z_sub [] rfl ?_
      exact hk_11  h
    · refine z_iload_n cx d_X1_writeDown_53 54 rfl rfl 1 rfl ?_
      refine y_if_lt cx d_X1_writeDown_54 57 rfl 108 (by decide) rfl h (fun h => ?_) (fun h => ?_)
      · refine z_sub [] rfl ?_
        exact hk_11  h
      · refine z_aload_n cx d_X1_writeDown_57 58 rfl rfl 0 rfl ?_
        refine z_get cx d_X1_writeDown_58 61 rfl e_Ch rfl zX1 4 (by decide) q_267 rfl rfl ?_
        refine z_iload cx d_X1_writeDown_61 63 rfl 3 rfl ?_
        refine z_aload_n cx d_X1_writeDown_63 64 rfl rfl 0 rfl ?_
        refine z_get cx d_X1_writeDown_64 67 rfl e_Ch rfl zX1 2 (by decide) q_265 rfl rfl ?_
        refine z_iload_n cx d_X1_writeDown_67 68 rfl rfl 1 rfl ?_
        refine y_ialdx cx d_X1_writeDown_68 69 rfl e_Ch_queue (by decide) h (fun x_12 h => ?_)
        refine y_iast cx d_X1_writeDown_69 70 rfl e_Ch_step (by decide) h (fun _ h9 => s_Ch_step h9) (fun Ch_13 h => ?_)
        refine z_aload_n cx d_X1_writeDown_70 71 rfl rfl 0 rfl ?_
        refine z_get cx d_X1_writeDown_71 74 rfl e_Ch rfl zX1 5 (by decide) q_268 rfl rfl ?_
        refine z_iload cx d_X1_writeDown_74 76 rfl 3 rfl ?_
        refine z_iload cx d_X1_writeDown_76 78 rfl 2 rfl ?_
        refine y_iast cx d_X1_writeDown_78 79 rfl e_Ch_into (by decide) h (fun _ h9 => s_Ch_into h9) (fun Ch_14 h => ?_)
        refine z_aload_n cx d_X1_writeDown_79 80 rfl rfl 0 rfl ?_
        refine z_get cx d_X1_writeDown_80 83 rfl e_Ch rfl zX1 0 (by decide) q_263 rfl rfl ?_
        refine z_get cx d_X1_writeDown_83 86 rfl e_N rfl zX5 3 (by decide) q_75 rfl rfl ?_
        refine z_aload_n cx d_X1_writeDown_86 87 rfl rfl 0 rfl ?_
        refine z_get cx d_X1_writeDown_87 90 rfl e_Ch rfl zX1 2 (by decide) q_265 rfl rfl ?_
        refine z_iload_n cx d_X1_writeDown_90 91 rfl rfl 1 rfl ?_
        refine y_ialdx cx d_X1_writeDown_91 92 rfl e_Ch_queue (by decide) h (fun x_15 h => ?_)
        refine y_ialdx cx d_X1_writeDown_92 93 rfl e_N_home (by decide) h (fun x_16 h => ?_)
        refine y_istore cx d_X1_writeDown_93 95 rfl (by decide) (lv' := [(4, .int (zI x_16)), (0, .ref (g.2.2 62)), (3, .int (zI v3_6)), (5, .int (zI v5_8))]) rfl ?_
        refine z_aload_n cx d_X1_writeDown_95 96 rfl rfl 1 rfl ?_
        refine z_get cx d_X1_writeDown_96 99 rfl e_Ch rfl zX1 3 (by decide) q_266 rfl rfl ?_
        refine z_iload_n cx d_X1_writeDown_99 100 rfl rfl 2 rfl ?_
        refine y_ialdx cx d_X1_writeDown_100 101 rfl e_Ch_ledBy (by decide) h (fun x_17 h => ?_)
        refine y_istore_n cx d_X1_writeDown_101 102 rfl rfl (by decide) (lv' := [(3, .int (zI x_17)), (4, .int (zI x_16)), (0, .ref (g.2.2 62)), (5, .int (zI v5_8))]) rfl ?_
        refine y_iinc cx 3 d_X1_writeDown_102 105 rfl rfl (by decide) (lv' := [(5, .int (zI (v5_8 + (-1)))), (3, .int (zI x_17)), (4, .int (zI x_16)), (0, .ref (g.2.2 62))]) rfl ?_
        refine z_goto cx d_X1_writeDown_105 48 (by decide) ?_
        refine z_sub [3, 1, 2, 0] rfl ?_
        exact hrec_10 _ _ _ _ h
  refine y_if_lt cx d_X1_writeDown_3 6 rfl 35 (by decide) rfl h (fun h => ?_) (fun h => ?_)
  · refine z_sub [0, 1, 2] rfl ?_
    exact hk_4  h
  · refine z_aload_n cx d_X1_writeDown_6 7 rfl rfl 0 rfl ?_
    refine z_get cx d_X1_writeDown_7 10 rfl e_Ch rfl zX1 6 (by decide) q_269 rfl rfl ?_
    refine y_bipush cx d_X1_writeDown_10 12 rfl (by decide) ?_
    refine y_icmp_ge cx d_X1_writeDown_12 15 rfl 35 (by decide) rfl (nm_eq (x := 24) (by decide) (by decide)) h (fun h => ?_) (fun h => ?_)
    · refine z_sub [0, 1, 2] rfl ?_
      exact hk_4  h
    · refine z_aload_n cx d_X1_writeDown_15 16 rfl rfl 0 rfl ?_
      refine z_dup cx d_X1_writeDown_16 17 rfl rfl ?_
      refine z_get cx d_X1_writeDown_17 20 rfl e_Ch rfl zX1 6 (by decide) q_269 rfl rfl ?_
      refine y_iconst cx d_X1_writeDown_20 21 rfl ?_
      refine y_iadd cx d_X1_writeDown_21 22 rfl ?_
      refine y_put cx d_X1_writeDown_22 25 rfl e_Ch rfl zX1 tyX1_ok nmX1 6 (by decide) q_269 rfl rfl rfl rfl (Nat.le_of_ble_eq_true rfl) h (fun _ h9 => s_Ch_6 h9) (fun Ch_18 h => ?_)
      refine z_aload_n cx d_X1_writeDown_25 26 rfl rfl 0 rfl ?_
      refine z_get cx d_X1_writeDown_26 29 rfl e_Ch rfl zX1 3 (by decide) q_266 rfl rfl ?_
      refine z_iload_n cx d_X1_writeDown_29 30 rfl rfl 3 rfl ?_
      refine y_ialdx cx d_X1_writeDown_30 31 rfl e_Ch_ledBy (by decide) h (fun x_19 h => ?_)
      refine y_istore_n cx d_X1_writeDown_31 32 rfl rfl (by decide) (lv' := [(3, .int (zI x_19)), (0, .ref (g.2.2 62)), (1, .int (zI a1)), (2, .int (zI a2))]) rfl ?_
      refine z_goto cx d_X1_writeDown_32 2 (by decide) ?_
      refine z_sub [1, 2, 3, 0] rfl ?_
      exact hrec_3 _ _ h
def zrCh_find : Room := { frames := 3, cells := 0, slots := 0, locals := 77 }
set_option maxHeartbeats 4000000 in
theorem tCh_find {l : Launch} {g : ZG} {X : ZB} {N : ZB} {T : ZB} {Rd : ZB} {Fr : ZB} {Ac : ZA} {Ch : ZB} {PS : ZB} {Ly : ZB} {Pa : ZQ} {OT : ZB} {Ea : ZB} {Ga : ZB} {Im0 : ZO} {Im1 : ZO} {La : ZB} {a1 : Int} {r : Int × ZB} (h : fCh_find N Ch a1 = some r) : zMi l yX1_find cX1_find 8 (some .int) zrCh_find g [.ref (g.2.2 62), .int (zI a1)] (wX g X N T Rd Fr Ac Ch PS Ly Pa OT Ea Ga Im0 Im1 La) (wX g X N T Rd Fr Ac r.2 PS Ly Pa OT Ea Ga Im0 Im1 La) (zI r.1) := by
  unfold fCh_find at h
  refine zMi_q (own := RX1) rfl (by decide +kernel) (Nat.le_of_ble_eq_true rfl) (lv := [(0, .ref (g.2.2 62)), (1, .int (zI a1))]) rfl ⟨rfl, rfl⟩ ?_
  intro p e s m args below meth c A Q hQ cx
  refine z_aload_n cx d_X1_find_0 1 rfl rfl 0 rfl ?_
  refine y_iconst cx d_X1_find_1 2 rfl ?_
  refine y_put cx d_X1_find_2 5 rfl e_Ch rfl zX1 tyX1_ok nmX1 6 (by decide) q_269 rfl rfl rfl rfl (Nat.le_of_ble_eq_true rfl) h (fun _ h9 => s_Ch_6 h9) (fun Ch_1 h => ?_)
  refine z_aload_n cx d_X1_find_5 6 rfl rfl 0 rfl ?_
  refine y_iconst cx d_X1_find_6 7 rfl ?_
  refine z_iload_n cx d_X1_find_7 8 rfl rfl 1 rfl ?_
  refine y_ishl cx d_X1_find_8 9 rfl ?_
  refine y_put cx d_X1_find_9 12 rfl e_Ch rfl zX1 tyX1_ok nmX1 7 (by decide) q_270 rfl rfl rfl rfl (Nat.le_of_ble_eq_true rfl) h (fun _ h9 => s_Ch_7 h9) (fun Ch_2 h => ?_)
  refine z_aload_n cx d_X1_find_12 13 rfl rfl 0 rfl ?_
  refine z_get cx d_X1_find_13 16 rfl e_Ch rfl zX1 2 (by decide) q_265 rfl rfl ?_
  refine y_iconst cx d_X1_find_16 17 rfl ?_
  refine z_iload_n cx d_X1_find_17 18 rfl rfl 1 rfl ?_
  refine y_iast cx d_X1_find_18 19 rfl e_Ch_queue (by decide) h (fun _ h9 => s_Ch_queue h9) (fun Ch_3 h => ?_)
  refine z_aload_n cx d_X1_find_19 20 rfl rfl 0 rfl ?_
  refine z_get cx d_X1_find_20 23 rfl e_Ch rfl zX1 3 (by decide) q_266 rfl rfl ?_
  refine y_iconst cx d_X1_find_23 24 rfl ?_
  refine y_iconst cx d_X1_find_24 25 rfl ?_
  refine y_iast cx d_X1_find_25 26 rfl e_Ch_ledBy (by decide) h (fun _ h9 => s_Ch_ledBy h9) (fun Ch_4 h => ?_)
  refine y_iconst cx d_X1_find_26 27 rfl ?_
  refine y_istore_n cx d_X1_find_27 28 rfl rfl (by decide) (lv' := [(2, .int (zI 1)), (0, .ref (g.2.2 62)), (1, .int (zI a1))]) rfl ?_
  refine y_iconst cx d_X1_find_28 29 rfl ?_
  refine y_istore_n cx d_X1_find_29 30 rfl rfl (by decide) (lv' := [(3, .int (zI 0)), (2, .int (zI 1)), (0, .ref (g.2.2 62)), (1, .int (zI a1))]) rfl ?_
  refine z_sub [2, 1, 0] rfl ?_
  refine lop3_f (P := fun (v2_5 : Int) (v3_6 : Int) (Ch_7 : ZB) => V p l e zrCh_find s m args below meth c A s.heap g 8 Q (wX g X N T Rd Fr Ac Ch_7 PS Ly Pa OT Ea Ga Im0 Im1 La) 0 0 [(0, .ref (g.2.2 62)), (2, .int (zI v2_5)), (3, .int (zI v3_6))] 30 []) (fun rec_8 hrec_8 v2_5 v3_6 Ch_7 h => ?_) _ _ _ _ h
  refine z_iload_n cx d_X1_find_30 31 rfl rfl 2 rfl ?_
  refine z_iload_n cx d_X1_find_31 32 rfl rfl 1 rfl ?_
  refine kf0_f (P := V p l e zrCh_find s m args below meth c A s.heap g 8 Q (wX g X N T Rd Fr Ac Ch_7 PS Ly Pa OT Ea Ga Im0 Im1 La) 0 0 [] 162 []) h (fun h => ?_) (fun k_9 hk_9 h => ?_)
  · refine y_iconst cx d_X1_find_162 163 rfl ?_
    subst hQ
    obtain rfl := Option.some.inj h
    exact z_iret cx d_X1_find_163 rfl rfl
  refine y_icmp_ge cx d_X1_find_32 35 rfl 162 (by decide) rfl rfl h (fun h => ?_) (fun h => ?_)
  · refine z_sub [] rfl ?_
    exact hk_9  h
  · refine z_iload_n cx d_X1_find_35 36 rfl rfl 2 rfl ?_
    refine y_bipush cx d_X1_find_36 38 rfl (by decide) ?_
    refine y_icmp_ge cx d_X1_find_38 41 rfl 162 (by decide) rfl (nm_eq (x := 24) (by decide) (by decide)) h (fun h => ?_) (fun h => ?_)
    · refine z_sub [] rfl ?_
      exact hk_9  h
    · refine z_aload_n cx d_X1_find_41 42 rfl rfl 0 rfl ?_
      refine z_get cx d_X1_find_42 45 rfl e_Ch rfl zX1 2 (by decide) q_265 rfl rfl ?_
      refine z_iload_n cx d_X1_find_45 46 rfl rfl 2 rfl ?_
      refine y_ialdx cx d_X1_find_46 47 rfl e_Ch_queue (by decide) h (fun x_10 h => ?_)
      refine y_istore cx d_X1_find_47 49 rfl (by decide) (lv' := [(4, .int (zI x_10)), (0, .ref (g.2.2 62)), (2, .int (zI v2_5)), (3, .int (zI v3_6))]) rfl ?_
      refine z_aload_n cx d_X1_find_49 50 rfl rfl 1 rfl ?_
      refine z_iload cx d_X1_find_50 52 rfl 0 rfl ?_
      refine y_callV_i (As := [.int (zI x_10)]) (rest := []) (W := fun u_11 => wX g X N T Rd Fr Ac u_11.2 PS Ly Pa OT Ea Ga Im0 Im1 La) (rf := fun u_11 => zI u_11.1) (rm := zrCh_freeForest) cx (fun _ hq => tCh_freeForest hq) d_X1_find_52 55 rfl kk_X1_freeForest q_538 q_540 q_3 rfl e_Ch rfl ⟨rfl, rfl⟩ ⟨Nat.le_of_ble_eq_true rfl, Nat.le_of_ble_eq_true rfl⟩ rfl rfl (Nat.le_of_ble_eq_true rfl) ⟨Nat.zero_le _, Nat.zero_le _⟩ h (fun u_11 h => ?_)
      refine y_istore cx d_X1_find_55 57 rfl (by decide) (lv' := [(5, .int (zI u_11.1)), (4, .int (zI x_10)), (0, .ref (g.2.2 62)), (2, .int (zI v2_5)), (3, .int (zI v3_6))]) rfl ?_
      refine z_iload cx d_X1_find_57 59 rfl 0 rfl ?_
      refine y_iconst cx d_X1_find_59 60 rfl ?_
      refine y_icmp_eq cx d_X1_find_60 63 rfl 75 (by decide) rfl (nm_eq (x := (-1)) (by decide) (by decide)) h (fun h => ?_) (fun h => ?_)
      · refine z_aload_n cx d_X1_find_75 76 rfl rfl 2 rfl ?_
        refine z_iload cx d_X1_find_76 78 rfl 1 rfl ?_
        refine y_callV_i (As := [.int (zI x_10)]) (rest := []) (W := fun u_12 => wX g X N T Rd Fr Ac u_12.2 PS Ly Pa OT Ea Ga Im0 Im1 La) (rf := fun u_12 => zI u_12.1) (rm := zrCh_allRings) cx (fun _ hq => tCh_allRings hq) d_X1_find_78 81 rfl kk_X1_allRings q_547 q_549 q_5 rfl e_Ch rfl ⟨rfl, rfl⟩ ⟨Nat.le_of_ble_eq_true rfl, Nat.le_of_ble_eq_true rfl⟩ rfl rfl (Nat.le_of_ble_eq_true rfl) ⟨Nat.zero_le _, Nat.zero_le _⟩ h (fun u_12 h => ?_)
        refine z_aload_n cx d_X1_find_81 82 rfl rfl 2 rfl ?_
        refine z_get cx d_X1_find_82 85 rfl e_Ch rfl zX1 7 (by decide) q_270 rfl rfl ?_
        refine y_iconst cx d_X1_find_85 86 rfl ?_
        refine y_ixor cx d_X1_find_86 87 rfl ?_
        refine y_iand cx d_X1_find_87 88 rfl ?_
        refine y_istore_b cx d_X1_find_88 90 rfl (by decide) (fun y => [(6, .int (zI y)), (5, .int (zI u_11.1)), (4, .int (zI x_10)), (0, .ref (g.2.2 62)), (2, .int (zI v2_5)), (3, .int (zI v3_6))]) (fun y => rfl) h (fun v6_13 h => ?_)
        refine z_aload_n cx d_X1_find_90 91 rfl rfl 3 rfl ?_
        refine z_dup cx d_X1_find_91 92 rfl rfl ?_
        refine z_get cx d_X1_find_92 95 rfl e_Ch rfl zX1 7 (by decide) q_270 rfl rfl ?_
        refine z_iload cx d_X1_find_95 97 rfl 0 rfl ?_
        refine y_ior cx d_X1_find_97 98 rfl ?_
        refine y_put cx d_X1_find_98 101 rfl e_Ch rfl zX1 tyX1_ok nmX1 7 (by decide) q_270 rfl rfl rfl rfl (Nat.le_of_ble_eq_true rfl) h (fun _ h9 => s_Ch_7 h9) (fun Ch_14 h => ?_)
        refine y_iconst cx d_X1_find_101 102 rfl ?_
        refine y_istore cx d_X1_find_102 104 rfl (by decide) (lv' := [(7, .int (zI 0)), (6, .int (zI v6_13)), (5, .int (zI u_11.1)), (4, .int (zI x_10)), (0, .ref (g.2.2 62)), (2, .int (zI v2_5)), (3, .int (zI v3_6))]) rfl ?_
        refine z_sub [4, 5, 6, 1, 0] rfl ?_
        refine lop3_f (P := fun (v2_15 : Int) (v7_16 : Int) (Ch_17 : ZB) => V p l e zrCh_find s m args below meth c A s.heap g 8 Q (wX g X N T Rd Fr Ac Ch_17 PS Ly Pa OT Ea Ga Im0 Im1 La) 0 0 [(0, .ref (g.2.2 62)), (2, .int (zI v2_15)), (3, .int (zI v3_6)), (6, .int (zI v6_13)), (7, .int (zI v7_16))] 104 []) (fun rec_18 hrec_18 v2_15 v7_16 Ch_17 h => ?_) _ _ _ _ h
        refine z_iload cx d_X1_find_104 106 rfl 4 rfl ?_
        refine z_aload_n cx d_X1_find_106 107 rfl rfl 0 rfl ?_
        refine z_get cx d_X1_find_107 110 rfl e_Ch rfl zX1 0 (by decide) q_263 rfl rfl ?_
        refine z_get cx d_X1_find_110 113 rfl e_N rfl zX5 5 (by decide) q_83 rfl rfl ?_
        refine kf0_f (P := V p l e zrCh_find s m args below meth c A s.heap g 8 Q (wX g X N T Rd Fr Ac Ch_17 PS Ly Pa OT Ea Ga Im0 Im1 La) 0 0 [(0, .ref (g.2.2 62)), (2, .int (zI v2_15)), (3, .int (zI v3_6))] 156 []) h (fun h => ?_) (fun k_19 hk_19 h => ?_)
        · refine y_iinc cx 2 d_X1_find_156 159 rfl rfl (by decide) (lv' := [(3, .int (zI (v3_6 + 1))), (0, .ref (g.2.2 62)), (2, .int (zI v2_15))]) rfl ?_
          refine z_goto cx d_X1_find_159 30 (by decide) ?_
          refine z_sub [1, 2, 0] rfl ?_
          exact hrec_8 _ _ _ h
        refine y_icmp_ge cx d_X1_find_113 116 rfl 156 (by decide) rfl rfl h (fun h => ?_) (fun h => ?_)
        · refine z_sub [0, 1, 2] rfl ?_
          exact hk_19  h
        · refine z_iload_n cx d_X1_find_116 117 rfl rfl 1 rfl ?_
          refine y_bipush cx d_X1_find_117 119 rfl (by decide) ?_
          refine y_icmp_ge cx d_X1_find_119 122 rfl 156 (by decide) rfl (nm_eq (x := 24) (by decide) (by decide)) h (fun h => ?_) (fun h => ?_)
          · refine z_sub [0, 1, 2] rfl ?_
            exact hk_19  h
          · refine z_iload cx d_X1_find_122 124 rfl 3 rfl ?_
            refine z_iload cx d_X1_find_124 126 rfl 4 rfl ?_
            refine y_ishr cx d_X1_find_126 127 rfl ?_
            refine y_iconst cx d_X1_find_127 128 rfl ?_
            refine y_iand cx d_X1_find_128 129 rfl ?_
            refine kf2_f (P := fun (v2_20 : Int) (Ch_21 : ZB) => V p l e zrCh_find s m args below meth c A s.heap g 8 Q (wX g X N T Rd Fr Ac Ch_21 PS Ly Pa OT Ea Ga Im0 Im1 La) 0 0 [(0, .ref (g.2.2 62)), (2, .int (zI v2_20)), (3, .int (zI v3_6)), (6, .int (zI v6_13)), (7, .int (zI v7_16))] 150 []) h (fun v2_20 Ch_21 h => ?_) (fun k_22 hk_22 h => ?_)
            · refine y_iinc cx 4 d_X1_find_150 153 rfl rfl (by decide) (lv' := [(7, .int (zI (v7_16 + 1))), (0, .ref (g.2.2 62)), (2, .int (zI v2_20)), (3, .int (zI v3_6)), (6, .int (zI v6_13))]) rfl ?_
              refine z_goto cx d_X1_find_153 104 (by decide) ?_
              refine z_sub [1, 2, 3, 4, 0] rfl ?_
              exact hrec_18 _ _ _ h
            refine y_if_eq cx d_X1_find_129 132 rfl 150 (by decide) (nm_zand _ _) h (fun h => ?_) (fun h => ?_)
            · exact hk_22 _ _ h
            · refine z_aload_n cx d_X1_find_132 133 rfl rfl 0 rfl ?_
              refine z_get cx d_X1_find_133 136 rfl e_Ch rfl zX1 2 (by decide) q_265 rfl rfl ?_
              refine z_iload_n cx d_X1_find_136 137 rfl rfl 1 rfl ?_
              refine z_iload cx d_X1_find_137 139 rfl 4 rfl ?_
              refine y_iast cx d_X1_find_139 140 rfl e_Ch_queue (by decide) h (fun _ h9 => s_Ch_queue h9) (fun Ch_23 h => ?_)
              refine z_aload_n cx d_X1_find_140 141 rfl rfl 0 rfl ?_
              refine z_get cx d_X1_find_141 144 rfl e_Ch rfl zX1 3 (by decide) q_266 rfl rfl ?_
              refine z_iload_n cx d_X1_find_144 145 rfl rfl 1 rfl ?_
              refine z_iload_n cx d_X1_find_145 146 rfl rfl 2 rfl ?_
              refine y_iast cx d_X1_find_146 147 rfl e_Ch_ledBy (by decide) h (fun _ h9 => s_Ch_ledBy h9) (fun Ch_24 h => ?_)
              refine y_iinc cx 1 d_X1_find_147 150 rfl rfl (by decide) (lv' := [(2, .int (zI (v2_15 + 1))), (0, .ref (g.2.2 62)), (3, .int (zI v3_6)), (6, .int (zI v6_13)), (7, .int (zI v7_16))]) rfl ?_
              refine z_sub [1, 0, 2, 3, 4] rfl ?_
              exact hk_22 _ _ h
      · refine z_aload_n cx d_X1_find_63 64 rfl rfl 2 rfl ?_
        refine z_iload_n cx d_X1_find_64 65 rfl rfl 4 rfl ?_
        refine z_iload cx d_X1_find_65 67 rfl 0 rfl ?_
        refine y_callV_v (As := [.int (zI v3_6), .int (zI u_11.1)]) (rest := []) (W := fun u_25 => wX g X N T Rd Fr Ac u_25 PS Ly Pa OT Ea Ga Im0 Im1 La) (rm := zr0) cx (fun _ hq => tCh_writeDown hq) d_X1_find_67 70 rfl kk_X1_writeDown q_543 q_545 q_4 rfl e_Ch rfl ⟨rfl, rfl⟩ ⟨Nat.le_of_ble_eq_true rfl, Nat.le_of_ble_eq_true rfl⟩ rfl rfl (Nat.le_of_ble_eq_true rfl) ⟨Nat.zero_le _, Nat.zero_le _⟩ h (fun u_25 h => ?_)
        refine z_aload_n cx d_X1_find_70 71 rfl rfl 2 rfl ?_
        refine z_get cx d_X1_find_71 74 rfl e_Ch rfl zX1 6 (by decide) q_269 rfl rfl ?_
        subst hQ
        obtain rfl := Option.some.inj h
        exact z_iret cx d_X1_find_74 rfl rfl
def zrCh_remember : Room := { frames := 1, cells := 0, slots := 0, locals := 40 }
set_option maxHeartbeats 4000000 in
theorem tCh_remember {l : Launch} {g : ZG} {X : ZB} {N : ZB} {T : ZB} {Rd : ZB} {Fr : ZB} {Ac : ZA} {Ch : ZB} {PS : ZB} {Ly : ZB} {Pa : ZQ} {OT : ZB} {Ea : ZB} {Ga : ZB} {Im0 : ZO} {Im1 : ZO} {La : ZB}  {r : ZB} (h : fCh_remember N Ch = some r) : zMv l yX1_remember cX1_remember 2 none zrCh_remember g [.ref (g.2.2 62)] (wX g X N T Rd Fr Ac Ch PS Ly Pa OT Ea Ga Im0 Im1 La) (wX g X N T Rd Fr Ac r PS Ly Pa OT Ea Ga Im0 Im1 La) := by
  unfold fCh_remember at h
  refine zMv_q (own := RX1) rfl (by decide +kernel) (Nat.le_of_ble_eq_true rfl) (lv := [(0, .ref (g.2.2 62))]) rfl ⟨rfl, rfl⟩ ?_
  intro p e s m args below meth c A Q hQ cx
  refine z_aload_n cx d_X1_remember_0 1 rfl rfl 0 rfl ?_
  refine z_get cx d_X1_remember_1 4 rfl e_Ch rfl zX1 6 (by decide) q_269 rfl rfl ?_
  refine y_if_le cx d_X1_remember_4 7 rfl 50 (by decide) rfl h (fun h => ?_) (fun h => ?_)
  · refine z_aload_n cx d_X1_remember_50 51 rfl rfl 0 rfl ?_
    refine y_iconst cx d_X1_remember_51 52 rfl ?_
    refine y_put cx d_X1_remember_52 55 rfl e_Ch rfl zX1 tyX1_ok nmX1 11 (by decide) q_274 rfl rfl rfl rfl (Nat.le_of_ble_eq_true rfl) h (fun _ h9 => s_Ch_11 h9) (fun Ch_1 h => ?_)
    refine y_iconst cx d_X1_remember_55 56 rfl ?_
    refine y_istore_n cx d_X1_remember_56 57 rfl rfl (by decide) (lv' := [(1, .int (zI 0)), (0, .ref (g.2.2 62))]) rfl ?_
    refine z_sub [1, 0] rfl ?_
    refine lop2_f (P := fun (v1_2 : Int) (Ch_3 : ZB) => V p l e zrCh_remember s m args below meth c A s.heap g 2 Q (wX g X N T Rd Fr Ac Ch_3 PS Ly Pa OT Ea Ga Im0 Im1 La) 0 0 [(0, .ref (g.2.2 62)), (1, .int (zI v1_2))] 57 []) (fun rec_4 hrec_4 v1_2 Ch_3 h => ?_) _ _ _ h
    refine z_iload_n cx d_X1_remember_57 58 rfl rfl 1 rfl ?_
    refine z_aload_n cx d_X1_remember_58 59 rfl rfl 0 rfl ?_
    refine z_get cx d_X1_remember_59 62 rfl e_Ch rfl zX1 0 (by decide) q_263 rfl rfl ?_
    refine z_get cx d_X1_remember_62 65 rfl e_N rfl zX5 5 (by decide) q_83 rfl rfl ?_
    refine y_icmp_ge cx d_X1_remember_65 68 rfl 102 (by decide) rfl rfl h (fun h => ?_) (fun h => ?_)
    · subst hQ
      obtain rfl := Option.some.inj h
      exact z_vret cx d_X1_remember_102 rfl
    · refine z_aload_n cx d_X1_remember_68 69 rfl rfl 0 rfl ?_
      refine z_get cx d_X1_remember_69 72 rfl e_Ch rfl zX1 7 (by decide) q_270 rfl rfl ?_
      refine z_iload_n cx d_X1_remember_72 73 rfl rfl 1 rfl ?_
      refine y_ishr cx d_X1_remember_73 74 rfl ?_
      refine y_iconst cx d_X1_remember_74 75 rfl ?_
      refine y_iand cx d_X1_remember_75 76 rfl ?_
      refine kf1_f (P := fun (Ch_5 : ZB) => V p l e zrCh_remember s m args below meth c A s.heap g 2 Q (wX g X N T Rd Fr Ac Ch_5 PS Ly Pa OT Ea Ga Im0 Im1 La) 0 0 [(0, .ref (g.2.2 62)), (1, .int (zI v1_2))] 96 []) h (fun Ch_5 h => ?_) (fun k_6 hk_6 h => ?_)
      · refine y_iinc cx 1 d_X1_remember_96 99 rfl rfl (by decide) (lv' := [(1, .int (zI (v1_2 + 1))), (0, .ref (g.2.2 62))]) rfl ?_
        refine z_goto cx d_X1_remember_99 57 (by decide) ?_
        refine z_sub [1, 0] rfl ?_
        exact hrec_4 _ _ h
      refine y_if_eq cx d_X1_remember_76 79 rfl 96 (by decide) (nm_zand _ _) h (fun h => ?_) (fun h => ?_)
      · exact hk_6 _ h
      · refine z_aload_n cx d_X1_remember_79 80 rfl rfl 0 rfl ?_
        refine z_dup cx d_X1_remember_80 81 rfl rfl ?_
        refine z_get cx d_X1_remember_81 84 rfl e_Ch rfl zX1 11 (by decide) q_274 rfl rfl ?_
        refine z_aload_n cx d_X1_remember_84 85 rfl rfl 0 rfl ?_
        refine z_get cx d_X1_remember_85 88 rfl e_Ch rfl zX1 0 (by decide) q_263 rfl rfl ?_
        refine z_iload_n cx d_X1_remember_88 89 rfl rfl 1 rfl ?_
        refine y_callV_i (As := [.int (zI v1_2)]) (rest := [.int (zI (Ch_3.1 11)), .ref (g.2.2 62)]) (W := fun u_7 => wX g X N T Rd Fr Ac Ch_3 PS Ly Pa OT Ea Ga Im0 Im1 La) (rf := fun u_7 => zI u_7) (rm := zr0) cx (fun _ hq => tN_ends hq) d_X1_remember_89 92 rfl kk_X5_ends q_897 q_593 q_594 rfl e_N rfl ⟨rfl, rfl⟩ ⟨Nat.le_of_ble_eq_true rfl, Nat.le_of_ble_eq_true rfl⟩ rfl rfl (Nat.le_of_ble_eq_true rfl) ⟨Nat.zero_le _, Nat.zero_le _⟩ h (fun u_7 h => ?_)
        refine y_ior cx d_X1_remember_92 93 rfl ?_
        refine y_put cx d_X1_remember_93 96 rfl e_Ch rfl zX1 tyX1_ok nmX1 11 (by decide) q_274 rfl rfl rfl rfl (Nat.le_of_ble_eq_true rfl) h (fun _ h9 => s_Ch_11 h9) (fun Ch_8 h => ?_)
        exact hk_6 _ h
  · refine z_aload_n cx d_X1_remember_7 8 rfl rfl 0 rfl ?_
    refine z_get cx d_X1_remember_8 11 rfl e_Ch rfl zX1 4 (by decide) q_267 rfl rfl ?_
    refine y_iconst cx d_X1_remember_11 12 rfl ?_
    refine z_aload_n cx d_X1_remember_12 13 rfl rfl 0 rfl ?_
    refine z_get cx d_X1_remember_13 16 rfl e_Ch rfl zX1 8 (by decide) q_271 rfl rfl ?_
    refine y_iconst cx d_X1_remember_16 17 rfl ?_
    refine z_aload_n cx d_X1_remember_17 18 rfl rfl 0 rfl ?_
    refine z_get cx d_X1_remember_18 21 rfl e_Ch rfl zX1 6 (by decide) q_269 rfl rfl ?_
    refine y_copy cx d_X1_remember_21 24 rfl q_896 q_517 q_516 q_44 e_Ch_step e_Ch_toldStep (by decide) (by decide) (Nat.le_of_ble_eq_true rfl) (Nat.le_of_ble_eq_true rfl) h (fun _ h9 => s_Ch_toldStep h9) (fun Ch_9 h => ?_)
    refine z_aload_n cx d_X1_remember_24 25 rfl rfl 0 rfl ?_
    refine z_get cx d_X1_remember_25 28 rfl e_Ch rfl zX1 5 (by decide) q_268 rfl rfl ?_
    refine y_iconst cx d_X1_remember_28 29 rfl ?_
    refine z_aload_n cx d_X1_remember_29 30 rfl rfl 0 rfl ?_
    refine z_get cx d_X1_remember_30 33 rfl e_Ch rfl zX1 9 (by decide) q_272 rfl rfl ?_
    refine y_iconst cx d_X1_remember_33 34 rfl ?_
    refine z_aload_n cx d_X1_remember_34 35 rfl rfl 0 rfl ?_
    refine z_get cx d_X1_remember_35 38 rfl e_Ch rfl zX1 6 (by decide) q_269 rfl rfl ?_
    refine y_copy cx d_X1_remember_38 41 rfl q_896 q_517 q_516 q_44 e_Ch_into e_Ch_toldInto (by decide) (by decide) (Nat.le_of_ble_eq_true rfl) (Nat.le_of_ble_eq_true rfl) h (fun _ h9 => s_Ch_toldInto h9) (fun Ch_10 h => ?_)
    refine z_aload_n cx d_X1_remember_41 42 rfl rfl 0 rfl ?_
    refine z_aload_n cx d_X1_remember_42 43 rfl rfl 0 rfl ?_
    refine z_get cx d_X1_remember_43 46 rfl e_Ch rfl zX1 6 (by decide) q_269 rfl rfl ?_
    refine y_put cx d_X1_remember_46 49 rfl e_Ch rfl zX1 tyX1_ok nmX1 10 (by decide) q_273 rfl rfl rfl rfl (Nat.le_of_ble_eq_true rfl) h (fun _ h9 => s_Ch_10 h9) (fun Ch_11 h => ?_)
    subst hQ
    obtain rfl := Option.some.inj h
    exact z_vret cx d_X1_remember_49 rfl
set_option maxHeartbeats 4000000 in
theorem tCh_carryOut {l : Launch} {g : ZG} {X : ZB} {N : ZB} {T : ZB} {Rd : ZB} {Fr : ZB} {Ac : ZA} {Ch : ZB} {PS : ZB} {Ly : ZB} {Pa : ZQ} {OT : ZB} {Ea : ZB} {Ga : ZB} {Im0 : ZO} {Im1 : ZO} {La : ZB}  {r : ZB} (h : fCh_carryOut N Ch = some r) : zMv l yX1_carryOut cX1_carryOut 2 none zr0 g [.ref (g.2.2 62)] (wX g X N T Rd Fr Ac Ch PS Ly Pa OT Ea Ga Im0 Im1 La) (wX g X r T Rd Fr Ac Ch PS Ly Pa OT Ea Ga Im0 Im1 La) := by
  unfold fCh_carryOut at h
  refine zMv_q (own := RX1) rfl (by decide +kernel) (Nat.le_of_ble_eq_true rfl) (lv := [(0, .ref (g.2.2 62))]) rfl ⟨rfl, rfl⟩ ?_
  intro p e s m args below meth c A Q hQ cx
  refine y_iconst cx d_X1_carryOut_0 1 rfl ?_
  refine y_istore_n cx d_X1_carryOut_1 2 rfl rfl (by decide) (lv' := [(1, .int (zI 0)), (0, .ref (g.2.2 62))]) rfl ?_
  refine z_sub [1, 0] rfl ?_
  refine lop2_f (P := fun (v1_1 : Int) (N_2 : ZB) => V p l e zr0 s m args below meth c A s.heap g 2 Q (wX g X N_2 T Rd Fr Ac Ch PS Ly Pa OT Ea Ga Im0 Im1 La) 0 0 [(0, .ref (g.2.2 62)), (1, .int (zI v1_1))] 2 []) (fun rec_3 hrec_3 v1_1 N_2 h => ?_) _ _ _ h
  refine z_iload_n cx d_X1_carryOut_2 3 rfl rfl 1 rfl ?_
  refine z_aload_n cx d_X1_carryOut_3 4 rfl rfl 0 rfl ?_
  refine z_get cx d_X1_carryOut_4 7 rfl e_Ch rfl zX1 6 (by decide) q_269 rfl rfl ?_
  refine y_icmp_ge cx d_X1_carryOut_7 10 rfl 36 (by decide) rfl rfl h (fun h => ?_) (fun h => ?_)
  · subst hQ
    obtain rfl := Option.some.inj h
    exact z_vret cx d_X1_carryOut_36 rfl
  · refine z_aload_n cx d_X1_carryOut_10 11 rfl rfl 0 rfl ?_
    refine z_get cx d_X1_carryOut_11 14 rfl e_Ch rfl zX1 0 (by decide) q_263 rfl rfl ?_
    refine z_get cx d_X1_carryOut_14 17 rfl e_N rfl zX5 3 (by decide) q_75 rfl rfl ?_
    refine z_aload_n cx d_X1_carryOut_17 18 rfl rfl 0 rfl ?_
    refine z_get cx d_X1_carryOut_18 21 rfl e_Ch rfl zX1 4 (by decide) q_267 rfl rfl ?_
    refine z_iload_n cx d_X1_carryOut_21 22 rfl rfl 1 rfl ?_
    refine y_ialdx cx d_X1_carryOut_22 23 rfl e_Ch_step (by decide) h (fun x_4 h => ?_)
    refine z_aload_n cx d_X1_carryOut_23 24 rfl rfl 0 rfl ?_
    refine z_get cx d_X1_carryOut_24 27 rfl e_Ch rfl zX1 5 (by decide) q_268 rfl rfl ?_
    refine z_iload_n cx d_X1_carryOut_27 28 rfl rfl 1 rfl ?_
    refine y_ialdx cx d_X1_carryOut_28 29 rfl e_Ch_into (by decide) h (fun x_5 h => ?_)
    refine y_iast cx d_X1_carryOut_29 30 rfl e_N_home (by decide) h (fun _ h9 => s_N_home h9) (fun N_6 h => ?_)
    refine y_iinc cx 1 d_X1_carryOut_30 33 rfl rfl (by decide) (lv' := [(1, .int (zI (v1_1 + 1))), (0, .ref (g.2.2 62))]) rfl ?_
    refine z_goto cx d_X1_carryOut_33 2 (by decide) ?_
    refine z_sub [1, 0] rfl ?_
    exact hrec_3 _ _ h
set_option maxHeartbeats 4000000 in
theorem tCh_toldAt {l : Launch} {g : ZG} {X : ZB} {N : ZB} {T : ZB} {Rd : ZB} {Fr : ZB} {Ac : ZA} {Ch : ZB} {PS : ZB} {Ly : ZB} {Pa : ZQ} {OT : ZB} {Ea : ZB} {Ga : ZB} {Im0 : ZO} {Im1 : ZO} {La : ZB} {a1 : Int} {a2 : Int} {r : Int} (h : fCh_toldAt Ch a1 a2 = some r) : zMi l yX1_toldAt cX1_toldAt 3 (some .int) zr0 g [.ref (g.2.2 62), .int (zI a1), .int (zI a2)] (wX g X N T Rd Fr Ac Ch PS Ly Pa OT Ea Ga Im0 Im1 La) (wX g X N T Rd Fr Ac Ch PS Ly Pa OT Ea Ga Im0 Im1 La) (zI r) := by
  unfold fCh_toldAt at h
  refine zMi_q (own := RX1) rfl (by decide +kernel) (Nat.le_of_ble_eq_true rfl) (lv := [(0, .ref (g.2.2 62)), (1, .int (zI a1)), (2, .int (zI a2))]) rfl ⟨rfl, rfl⟩ ?_
  intro p e s m args below meth c A Q hQ cx
  refine z_iload_n cx d_X1_toldAt_0 1 rfl rfl 1 rfl ?_
  refine kf0_f (P := V p l e zr0 s m args below meth c A s.heap g 3 Q (wX g X N T Rd Fr Ac Ch PS Ly Pa OT Ea Ga Im0 Im1 La) 0 0 [] 21 []) h (fun h => ?_) (fun k_1 hk_1 h => ?_)
  · refine y_iconst cx d_X1_toldAt_21 22 rfl ?_
    subst hQ
    obtain rfl := Option.some.inj h
    exact z_iret cx d_X1_toldAt_22 rfl rfl
  refine y_if_lt cx d_X1_toldAt_1 4 rfl 21 (by decide) rfl h (fun h => ?_) (fun h => ?_)
  · refine z_sub [] rfl ?_
    exact hk_1  h
  · refine z_iload_n cx d_X1_toldAt_4 5 rfl rfl 1 rfl ?_
    refine z_aload_n cx d_X1_toldAt_5 6 rfl rfl 0 rfl ?_
    refine z_get cx d_X1_toldAt_6 9 rfl e_Ch rfl zX1 10 (by decide) q_273 rfl rfl ?_
    refine y_icmp_ge cx d_X1_toldAt_9 12 rfl 21 (by decide) rfl rfl h (fun h => ?_) (fun h => ?_)
    · refine z_sub [] rfl ?_
      exact hk_1  h
    · refine z_iload_n cx d_X1_toldAt_12 13 rfl rfl 2 rfl ?_
      refine y_if_lt cx d_X1_toldAt_13 16 rfl 21 (by decide) rfl h (fun h => ?_) (fun h => ?_)
      · refine z_sub [] rfl ?_
        exact hk_1  h
      · refine z_iload_n cx d_X1_toldAt_16 17 rfl rfl 2 rfl ?_
        refine y_iconst cx d_X1_toldAt_17 18 rfl ?_
        refine y_icmp_le cx d_X1_toldAt_18 21 rfl 23 (by decide) rfl (nm_eq (x := 1) (by decide) (by decide)) h (fun h => ?_) (fun h => ?_)
        · refine z_iload_n cx d_X1_toldAt_23 24 rfl rfl 2 rfl ?_
          refine kf1_f (P := fun (w0_2 : Int) => V p l e zr0 s m args below meth c A s.heap g 3 Q (wX g X N T Rd Fr Ac Ch PS Ly Pa OT Ea Ga Im0 Im1 La) 0 0 [] 42 [.int (zI w0_2)]) h (fun w0_2 h => ?_) (fun k_3 hk_3 h => ?_)
          · subst hQ
            obtain rfl := Option.some.inj h
            exact z_iret cx d_X1_toldAt_42 rfl rfl
          refine y_if_ne cx d_X1_toldAt_24 27 rfl 36 (by decide) rfl h (fun h => ?_) (fun h => ?_)
          · refine z_aload_n cx d_X1_toldAt_36 37 rfl rfl 0 rfl ?_
            refine z_get cx d_X1_toldAt_37 40 rfl e_Ch rfl zX1 9 (by decide) q_272 rfl rfl ?_
            refine z_iload_n cx d_X1_toldAt_40 41 rfl rfl 1 rfl ?_
            refine y_ialdx cx d_X1_toldAt_41 42 rfl e_Ch_toldInto (by decide) h (fun x_4 h => ?_)
            refine z_sub [] rfl ?_
            exact hk_3 _ h
          · refine z_aload_n cx d_X1_toldAt_27 28 rfl rfl 0 rfl ?_
            refine z_get cx d_X1_toldAt_28 31 rfl e_Ch rfl zX1 8 (by decide) q_271 rfl rfl ?_
            refine z_iload_n cx d_X1_toldAt_31 32 rfl rfl 1 rfl ?_
            refine y_ialdx cx d_X1_toldAt_32 33 rfl e_Ch_toldStep (by decide) h (fun x_5 h => ?_)
            refine z_goto cx d_X1_toldAt_33 42 (by decide) ?_
            refine z_sub [] rfl ?_
            exact hk_3 _ h
        · refine z_sub [] rfl ?_
          exact hk_1  h
set_option maxHeartbeats 4000000 in
theorem tCh_toldCrowd {l : Launch} {g : ZG} {X : ZB} {N : ZB} {T : ZB} {Rd : ZB} {Fr : ZB} {Ac : ZA} {Ch : ZB} {PS : ZB} {Ly : ZB} {Pa : ZQ} {OT : ZB} {Ea : ZB} {Ga : ZB} {Im0 : ZO} {Im1 : ZO} {La : ZB}  {r : Int} (h : fCh_toldCrowd Ch = some r) : zMi l yX1_toldCrowd cX1_toldCrowd 1 (some .int) zr0 g [.ref (g.2.2 62)] (wX g X N T Rd Fr Ac Ch PS Ly Pa OT Ea Ga Im0 Im1 La) (wX g X N T Rd Fr Ac Ch PS Ly Pa OT Ea Ga Im0 Im1 La) (zI r) := by
  unfold fCh_toldCrowd at h
  refine zMi_q (own := RX1) rfl (by decide +kernel) (Nat.le_of_ble_eq_true rfl) (lv := [(0, .ref (g.2.2 62))]) rfl ⟨rfl, rfl⟩ ?_
  intro p e s m args below meth c A Q hQ cx
  refine z_aload_n cx d_X1_toldCrowd_0 1 rfl rfl 0 rfl ?_
  refine z_get cx d_X1_toldCrowd_1 4 rfl e_Ch rfl zX1 11 (by decide) q_274 rfl rfl ?_
  subst hQ
  obtain rfl := Option.some.inj h
  exact z_iret cx d_X1_toldCrowd_4 rfl rfl
