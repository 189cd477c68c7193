-- needs: 10.anet
set_option maxHeartbeats 4000000 in
theorem tT_hasRoom {l : Launch} {g : ZG} {X : ZB} {N : ZB} {T : ZB} {Rd : ZB} {Fr : ZB} {Ac : ZA} {Ch : ZB} {PS : ZB} {Ly : ZB} {Pa : ZQ} {OT : ZB} {Ea : ZB} {Ga : ZB} {Im0 : ZO} {Im1 : ZO} {La : ZB}  {r : Int} (h : fT_hasRoom T = some r) : zMi l yX10_hasRoom cX10_hasRoom 1 (some .boolean) zr0 g [.ref (g.2.2 6)] (wX g X N T Rd Fr Ac Ch PS Ly Pa OT Ea Ga Im0 Im1 La) (wX g X N T Rd Fr Ac Ch PS Ly Pa OT Ea Ga Im0 Im1 La) (zI r) := by
  unfold fT_hasRoom at h
  refine zMi_q (own := RX10) rfl (by decide +kernel) (Nat.le_of_ble_eq_true rfl) (lv := [(0, .ref (g.2.2 6))]) rfl ⟨rfl, rfl⟩ ?_
  intro p e s m args below meth c A Q hQ cx
  refine z_aload_n cx d_X10_hasRoom_0 1 rfl rfl 0 rfl ?_
  refine z_get cx d_X10_hasRoom_1 4 rfl e_T rfl zX10 1 (by decide) q_121 rfl rfl ?_
  refine y_bipush cx d_X10_hasRoom_4 6 rfl (by decide) ?_
  refine y_iadd cx d_X10_hasRoom_6 7 rfl ?_
  refine y_sipush cx d_X10_hasRoom_7 10 rfl (by decide) ?_
  refine kf1_f (P := fun (w0_1 : Int) => V p l e zr0 s m args below meth c A s.heap g 1 Q (wX g X N T Rd Fr Ac Ch PS Ly Pa OT Ea Ga Im0 Im1 La) 0 0 [] 18 [.int (zI w0_1)]) h (fun w0_1 h => ?_) (fun k_2 hk_2 h => ?_)
  · obtain ⟨hz, h⟩ := zo_i h
    subst hQ
    obtain rfl := Option.some.inj h
    exact z_zret cx d_X10_hasRoom_18 (zb01 hz) rfl rfl
  refine y_icmp_gt cx d_X10_hasRoom_10 13 rfl 17 (by decide) rfl (nm_eq (x := 640) (by decide) (by decide)) h (fun h => ?_) (fun h => ?_)
  · refine y_iconst cx d_X10_hasRoom_17 18 rfl ?_
    refine z_sub [] rfl ?_
    exact hk_2 _ h
  · refine y_iconst cx d_X10_hasRoom_13 14 rfl ?_
    refine z_goto cx d_X10_hasRoom_14 18 (by decide) ?_
    refine z_sub [] rfl ?_
    exact hk_2 _ h
set_option maxHeartbeats 4000000 in
theorem tT_add {l : Launch} {g : ZG} {X : ZB} {N : ZB} {T : ZB} {Rd : ZB} {Fr : ZB} {Ac : ZA} {Ch : ZB} {PS : ZB} {Ly : ZB} {Pa : ZQ} {OT : ZB} {Ea : ZB} {Ga : ZB} {Im0 : ZO} {Im1 : ZO} {La : ZB} {a1 : Int} {r : ZB} (h : fT_add T a1 = some r) : zMv l yX10_add cX10_add 3 none zr0 g [.ref (g.2.2 6), .int (zI a1)] (wX g X N T Rd Fr Ac Ch PS Ly Pa OT Ea Ga Im0 Im1 La) (wX g X N r Rd Fr Ac Ch PS Ly Pa OT Ea Ga Im0 Im1 La) := by
  unfold fT_add at h
  refine zMv_q (own := RX10) rfl (by decide +kernel) (Nat.le_of_ble_eq_true rfl) (lv := [(0, .ref (g.2.2 6)), (1, .int (zI a1))]) rfl ⟨rfl, rfl⟩ ?_
  intro p e s m args below meth c A Q hQ cx
  refine y_bipush cx d_X10_add_0 2 rfl (by decide) ?_
  refine y_istore_n cx d_X10_add_2 3 rfl rfl (by decide) (lv' := [(2, .int (zI 24)), (0, .ref (g.2.2 6)), (1, .int (zI a1))]) rfl ?_
  refine z_sub [1, 2, 0] rfl ?_
  refine lop2_f (P := fun (v2_1 : Int) (T_2 : ZB) => V p l e zr0 s m args below meth c A s.heap g 3 Q (wX g X N T_2 Rd Fr Ac Ch PS Ly Pa OT Ea Ga Im0 Im1 La) 0 0 [(0, .ref (g.2.2 6)), (1, .int (zI a1)), (2, .int (zI v2_1))] 3 []) (fun rec_3 hrec_3 v2_1 T_2 h => ?_) _ _ _ h
  refine z_iload_n cx d_X10_add_3 4 rfl rfl 2 rfl ?_
  refine kf0_f (P := V p l e zr0 s m args below meth c A s.heap g 3 Q (wX g X N T_2 Rd Fr Ac Ch PS Ly Pa OT Ea Ga Im0 Im1 La) 0 0 [] 49 []) h (fun h => ?_) (fun k_4 hk_4 h => ?_)
  · subst hQ
    obtain rfl := Option.some.inj h
    exact z_vret cx d_X10_add_49 rfl
  refine y_if_lt cx d_X10_add_4 7 rfl 49 (by decide) rfl h (fun h => ?_) (fun h => ?_)
  · refine z_sub [] rfl ?_
    exact hk_4  h
  · refine z_aload_n cx d_X10_add_7 8 rfl rfl 0 rfl ?_
    refine z_get cx d_X10_add_8 11 rfl e_T rfl zX10 1 (by decide) q_121 rfl rfl ?_
    refine y_sipush cx d_X10_add_11 14 rfl (by decide) ?_
    refine y_icmp_ge cx d_X10_add_14 17 rfl 49 (by decide) rfl (nm_eq (x := 640) (by decide) (by decide)) h (fun h => ?_) (fun h => ?_)
    · refine z_sub [] rfl ?_
      exact hk_4  h
    · refine z_aload_n cx d_X10_add_17 18 rfl rfl 0 rfl ?_
      refine z_get cx d_X10_add_18 21 rfl e_T rfl zX10 0 (by decide) q_120 rfl rfl ?_
      refine z_aload_n cx d_X10_add_21 22 rfl rfl 0 rfl ?_
      refine z_get cx d_X10_add_22 25 rfl e_T rfl zX10 1 (by decide) q_121 rfl rfl ?_
      refine z_iload_n cx d_X10_add_25 26 rfl rfl 1 rfl ?_
      refine z_iload_n cx d_X10_add_26 27 rfl rfl 2 rfl ?_
      refine y_iushr cx d_X10_add_27 28 rfl ?_
      refine y_sipush cx d_X10_add_28 31 rfl (by decide) ?_
      refine y_iand cx d_X10_add_31 32 rfl ?_
      refine y_iast cx d_X10_add_32 33 rfl e_T_bytes (by decide) h (fun _ h9 => s_T_bytes h9) (fun T_5 h => ?_)
      refine z_aload_n cx d_X10_add_33 34 rfl rfl 0 rfl ?_
      refine z_dup cx d_X10_add_34 35 rfl rfl ?_
      refine z_get cx d_X10_add_35 38 rfl e_T rfl zX10 1 (by decide) q_121 rfl rfl ?_
      refine y_iconst cx d_X10_add_38 39 rfl ?_
      refine y_iadd cx d_X10_add_39 40 rfl ?_
      refine y_put cx d_X10_add_40 43 rfl e_T rfl zX10 tyX10_ok nmX10 1 (by decide) q_121 rfl rfl rfl rfl (Nat.le_of_ble_eq_true rfl) h (fun _ h9 => s_T_1 h9) (fun T_6 h => ?_)
      refine y_iinc cx 2 d_X10_add_43 46 rfl rfl (by decide) (lv' := [(2, .int (zI (v2_1 + (-8)))), (0, .ref (g.2.2 6)), (1, .int (zI a1))]) rfl ?_
      refine z_goto cx d_X10_add_46 3 (by decide) ?_
      refine z_sub [1, 2, 0] rfl ?_
      exact hrec_3 _ _ h
set_option maxHeartbeats 4000000 in
theorem tT_size {l : Launch} {g : ZG} {X : ZB} {N : ZB} {T : ZB} {Rd : ZB} {Fr : ZB} {Ac : ZA} {Ch : ZB} {PS : ZB} {Ly : ZB} {Pa : ZQ} {OT : ZB} {Ea : ZB} {Ga : ZB} {Im0 : ZO} {Im1 : ZO} {La : ZB}  {r : Int} (h : fT_size T = some r) : zMi l yX10_size cX10_size 1 (some .int) zr0 g [.ref (g.2.2 6)] (wX g X N T Rd Fr Ac Ch PS Ly Pa OT Ea Ga Im0 Im1 La) (wX g X N T Rd Fr Ac Ch PS Ly Pa OT Ea Ga Im0 Im1 La) (zI r) := by
  unfold fT_size at h
  refine zMi_q (own := RX10) rfl (by decide +kernel) (Nat.le_of_ble_eq_true rfl) (lv := [(0, .ref (g.2.2 6))]) rfl ⟨rfl, rfl⟩ ?_
  intro p e s m args below meth c A Q hQ cx
  refine z_aload_n cx d_X10_size_0 1 rfl rfl 0 rfl ?_
  refine z_get cx d_X10_size_1 4 rfl e_T rfl zX10 1 (by decide) q_121 rfl rfl ?_
  subst hQ
  obtain rfl := Option.some.inj h
  exact z_iret cx d_X10_size_4 rfl rfl
set_option maxHeartbeats 4000000 in
theorem tT_cut {l : Launch} {g : ZG} {X : ZB} {N : ZB} {T : ZB} {Rd : ZB} {Fr : ZB} {Ac : ZA} {Ch : ZB} {PS : ZB} {Ly : ZB} {Pa : ZQ} {OT : ZB} {Ea : ZB} {Ga : ZB} {Im0 : ZO} {Im1 : ZO} {La : ZB} {a1 : Int} {r : ZB} (h : fT_cut T a1 = some r) : zMv l yX10_cut cX10_cut 2 none zr0 g [.ref (g.2.2 6), .int (zI a1)] (wX g X N T Rd Fr Ac Ch PS Ly Pa OT Ea Ga Im0 Im1 La) (wX g X N r Rd Fr Ac Ch PS Ly Pa OT Ea Ga Im0 Im1 La) := by
  unfold fT_cut at h
  refine zMv_q (own := RX10) rfl (by decide +kernel) (Nat.le_of_ble_eq_true rfl) (lv := [(0, .ref (g.2.2 6)), (1, .int (zI a1))]) rfl ⟨rfl, rfl⟩ ?_
  intro p e s m args below meth c A Q hQ cx
  refine z_aload_n cx d_X10_cut_0 1 rfl rfl 0 rfl ?_
  refine z_iload_n cx d_X10_cut_1 2 rfl rfl 1 rfl ?_
  refine y_put cx d_X10_cut_2 5 rfl e_T rfl zX10 tyX10_ok nmX10 1 (by decide) q_121 rfl rfl rfl rfl (Nat.le_of_ble_eq_true rfl) h (fun _ h9 => s_T_1 h9) (fun T_1 h => ?_)
  subst hQ
  obtain rfl := Option.some.inj h
  exact z_vret cx d_X10_cut_5 rfl
set_option maxHeartbeats 4000000 in
theorem tFr_clear {l : Launch} {g : ZG} {X : ZB} {N : ZB} {T : ZB} {Rd : ZB} {Fr : ZB} {Ac : ZA} {Ch : ZB} {PS : ZB} {Ly : ZB} {Pa : ZQ} {OT : ZB} {Ea : ZB} {Ga : ZB} {Im0 : ZO} {Im1 : ZO} {La : ZB}  {r : ZB} (h : fFr_clear Fr = some r) : zMv l yX5_clear cX5_clear 1 none zr0 g [.ref (g.2.2 10)] (wX g X N T Rd Fr Ac Ch PS Ly Pa OT Ea Ga Im0 Im1 La) (wX g X N T Rd r Ac Ch PS Ly Pa OT Ea Ga Im0 Im1 La) := by
  unfold fFr_clear at h
  refine zMv_q (own := RX5) rfl (by decide +kernel) (Nat.le_of_ble_eq_true rfl) (lv := [(0, .ref (g.2.2 10))]) rfl ⟨rfl, rfl⟩ ?_
  intro p e s m args below meth c A Q hQ cx
  refine z_aload_n cx d_X5_clear_0 1 rfl rfl 0 rfl ?_
  refine y_iconst cx d_X5_clear_1 2 rfl ?_
  refine y_put cx d_X5_clear_2 5 rfl e_Fr rfl zX5 tyX5_ok nmX5 4 (by decide) q_78 rfl rfl rfl rfl (Nat.le_of_ble_eq_true rfl) h (fun _ h9 => s_Fr_4 h9) (fun Fr_1 h => ?_)
  refine z_aload_n cx d_X5_clear_5 6 rfl rfl 0 rfl ?_
  refine y_iconst cx d_X5_clear_6 7 rfl ?_
  refine y_put cx d_X5_clear_7 10 rfl e_Fr rfl zX5 tyX5_ok nmX5 5 (by decide) q_84 rfl rfl rfl rfl (Nat.le_of_ble_eq_true rfl) h (fun _ h9 => s_Fr_5 h9) (fun Fr_2 h => ?_)
  refine z_aload_n cx d_X5_clear_10 11 rfl rfl 0 rfl ?_
  refine y_iconst cx d_X5_clear_11 12 rfl ?_
  refine y_put cx d_X5_clear_12 15 rfl e_Fr rfl zX5 tyX5_ok nmX5 6 (by decide) q_88 rfl rfl rfl rfl (Nat.le_of_ble_eq_true rfl) h (fun _ h9 => s_Fr_6 h9) (fun Fr_3 h => ?_)
  refine z_aload_n cx d_X5_clear_15 16 rfl rfl 0 rfl ?_
  refine y_iconst cx d_X5_clear_16 17 rfl ?_
  refine y_put cx d_X5_clear_17 20 rfl e_Fr rfl zX5 tyX5_ok nmX5 7 (by decide) q_92 rfl rfl rfl rfl (Nat.le_of_ble_eq_true rfl) h (fun _ h9 => s_Fr_7 h9) (fun Fr_4 h => ?_)
  refine z_aload_n cx d_X5_clear_20 21 rfl rfl 0 rfl ?_
  refine y_iconst cx d_X5_clear_21 22 rfl ?_
  refine y_put cx d_X5_clear_22 25 rfl e_Fr rfl zX5 tyX5_ok nmX5 8 (by decide) q_93 rfl rfl rfl rfl (Nat.le_of_ble_eq_true rfl) h (fun _ h9 => s_Fr_8 h9) (fun Fr_5 h => ?_)
  subst hQ
  obtain rfl := Option.some.inj h
  exact z_vret cx d_X5_clear_25 rfl
set_option maxHeartbeats 4000000 in
theorem tT_byteAt {l : Launch} {g : ZG} {X : ZB} {N : ZB} {T : ZB} {Rd : ZB} {Fr : ZB} {Ac : ZA} {Ch : ZB} {PS : ZB} {Ly : ZB} {Pa : ZQ} {OT : ZB} {Ea : ZB} {Ga : ZB} {Im0 : ZO} {Im1 : ZO} {La : ZB} {a1 : Int} {r : Int} (h : fT_byteAt T a1 = some r) : zMi l yX10_byteAt cX10_byteAt 2 (some .int) zr0 g [.ref (g.2.2 6), .int (zI a1)] (wX g X N T Rd Fr Ac Ch PS Ly Pa OT Ea Ga Im0 Im1 La) (wX g X N T Rd Fr Ac Ch PS Ly Pa OT Ea Ga Im0 Im1 La) (zI r) := by
  unfold fT_byteAt at h
  refine zMi_q (own := RX10) rfl (by decide +kernel) (Nat.le_of_ble_eq_true rfl) (lv := [(0, .ref (g.2.2 6)), (1, .int (zI a1))]) rfl ⟨rfl, rfl⟩ ?_
  intro p e s m args below meth c A Q hQ cx
  refine z_iload_n cx d_X10_byteAt_0 1 rfl rfl 1 rfl ?_
  refine kf1_f (P := fun (w0_1 : Int) => V p l e zr0 s m args below meth c A s.heap g 2 Q (wX g X N T Rd Fr Ac Ch PS Ly Pa OT Ea Ga Im0 Im1 La) 0 0 [] 22 [.int (zI w0_1)]) h (fun w0_1 h => ?_) (fun k_2 hk_2 h => ?_)
  · subst hQ
    obtain rfl := Option.some.inj h
    exact z_iret cx d_X10_byteAt_22 rfl rfl
  refine kf0_f (P := V p l e zr0 s m args below meth c A s.heap g 2 Q (wX g X N T Rd Fr Ac Ch PS Ly Pa OT Ea Ga Im0 Im1 La) 0 0 [] 12 []) h (fun h => ?_) (fun k_3 hk_3 h => ?_)
  · refine y_iconst cx d_X10_byteAt_12 13 rfl ?_
    refine z_goto cx d_X10_byteAt_13 22 (by decide) ?_
    exact hk_2 _ h
  refine y_if_lt cx d_X10_byteAt_1 4 rfl 12 (by decide) rfl h (fun h => ?_) (fun h => ?_)
  · refine z_sub [] rfl ?_
    exact hk_3  h
  · refine z_iload_n cx d_X10_byteAt_4 5 rfl rfl 1 rfl ?_
    refine z_aload_n cx d_X10_byteAt_5 6 rfl rfl 0 rfl ?_
    refine z_get cx d_X10_byteAt_6 9 rfl e_T rfl zX10 1 (by decide) q_121 rfl rfl ?_
    refine y_icmp_lt cx d_X10_byteAt_9 12 rfl 16 (by decide) rfl rfl h (fun h => ?_) (fun h => ?_)
    · refine z_aload_n cx d_X10_byteAt_16 17 rfl rfl 0 rfl ?_
      refine z_get cx d_X10_byteAt_17 20 rfl e_T rfl zX10 0 (by decide) q_120 rfl rfl ?_
      refine z_iload_n cx d_X10_byteAt_20 21 rfl rfl 1 rfl ?_
      refine y_ialdx cx d_X10_byteAt_21 22 rfl e_T_bytes (by decide) h (fun x_4 h => ?_)
      refine z_sub [] rfl ?_
      exact hk_2 _ h
    · refine z_sub [] rfl ?_
      exact hk_3  h
set_option maxHeartbeats 4000000 in
theorem tFr_addLine {l : Launch} {g : ZG} {X : ZB} {N : ZB} {T : ZB} {Rd : ZB} {Fr : ZB} {Ac : ZA} {Ch : ZB} {PS : ZB} {Ly : ZB} {Pa : ZQ} {OT : ZB} {Ea : ZB} {Ga : ZB} {Im0 : ZO} {Im1 : ZO} {La : ZB} {a1 : Int} {a2 : Int} {a3 : Int} {r : ZB} (h : fFr_addLine Fr a1 a2 a3 = some r) : zMv l yX5_addLine cX5_addLine 4 none zr0 g [.ref (g.2.2 10), .int (zI a1), .int (zI a2), .int (zI a3)] (wX g X N T Rd Fr Ac Ch PS Ly Pa OT Ea Ga Im0 Im1 La) (wX g X N T Rd r Ac Ch PS Ly Pa OT Ea Ga Im0 Im1 La) := by
  unfold fFr_addLine at h
  refine zMv_q (own := RX5) rfl (by decide +kernel) (Nat.le_of_ble_eq_true rfl) (lv := [(0, .ref (g.2.2 10)), (1, .int (zI a1)), (2, .int (zI a2)), (3, .int (zI a3))]) rfl ⟨rfl, rfl⟩ ?_
  intro p e s m args below meth c A Q hQ cx
  refine z_aload_n cx d_X5_addLine_0 1 rfl rfl 0 rfl ?_
  refine z_get cx d_X5_addLine_1 4 rfl e_Fr rfl zX5 5 (by decide) q_84 rfl rfl ?_
  refine y_bipush cx d_X5_addLine_4 6 rfl (by decide) ?_
  refine y_icmp_lt cx d_X5_addLine_6 9 rfl 10 (by decide) rfl (nm_eq (x := 24) (by decide) (by decide)) h (fun h => ?_) (fun h => ?_)
  · refine z_aload_n cx d_X5_addLine_10 11 rfl rfl 0 rfl ?_
    refine z_get cx d_X5_addLine_11 14 rfl e_Fr rfl zX5 0 (by decide) q_64 rfl rfl ?_
    refine z_aload_n cx d_X5_addLine_14 15 rfl rfl 0 rfl ?_
    refine z_get cx d_X5_addLine_15 18 rfl e_Fr rfl zX5 5 (by decide) q_84 rfl rfl ?_
    refine z_iload_n cx d_X5_addLine_18 19 rfl rfl 1 rfl ?_
    refine y_iast cx d_X5_addLine_19 20 rfl e_Fr_first (by decide) h (fun _ h9 => s_Fr_first h9) (fun Fr_1 h => ?_)
    refine z_aload_n cx d_X5_addLine_20 21 rfl rfl 0 rfl ?_
    refine z_get cx d_X5_addLine_21 24 rfl e_Fr rfl zX5 1 (by decide) q_68 rfl rfl ?_
    refine z_aload_n cx d_X5_addLine_24 25 rfl rfl 0 rfl ?_
    refine z_get cx d_X5_addLine_25 28 rfl e_Fr rfl zX5 5 (by decide) q_84 rfl rfl ?_
    refine z_iload_n cx d_X5_addLine_28 29 rfl rfl 2 rfl ?_
    refine y_iast cx d_X5_addLine_29 30 rfl e_Fr_second (by decide) h (fun _ h9 => s_Fr_second h9) (fun Fr_2 h => ?_)
    refine z_aload_n cx d_X5_addLine_30 31 rfl rfl 0 rfl ?_
    refine z_get cx d_X5_addLine_31 34 rfl e_Fr rfl zX5 2 (by decide) q_72 rfl rfl ?_
    refine z_aload_n cx d_X5_addLine_34 35 rfl rfl 0 rfl ?_
    refine z_get cx d_X5_addLine_35 38 rfl e_Fr rfl zX5 5 (by decide) q_84 rfl rfl ?_
    refine z_iload_n cx d_X5_addLine_38 39 rfl rfl 3 rfl ?_
    refine y_iast cx d_X5_addLine_39 40 rfl e_Fr_weight (by decide) h (fun _ h9 => s_Fr_weight h9) (fun Fr_3 h => ?_)
    refine z_aload_n cx d_X5_addLine_40 41 rfl rfl 0 rfl ?_
    refine z_get cx d_X5_addLine_41 44 rfl e_Fr rfl zX5 3 (by decide) q_74 rfl rfl ?_
    refine z_aload_n cx d_X5_addLine_44 45 rfl rfl 0 rfl ?_
    refine z_get cx d_X5_addLine_45 48 rfl e_Fr rfl zX5 5 (by decide) q_84 rfl rfl ?_
    refine y_iconst cx d_X5_addLine_48 49 rfl ?_
    refine y_iast cx d_X5_addLine_49 50 rfl e_Fr_home (by decide) h (fun _ h9 => s_Fr_home h9) (fun Fr_4 h => ?_)
    refine z_aload_n cx d_X5_addLine_50 51 rfl rfl 0 rfl ?_
    refine z_dup cx d_X5_addLine_51 52 rfl rfl ?_
    refine z_get cx d_X5_addLine_52 55 rfl e_Fr rfl zX5 5 (by decide) q_84 rfl rfl ?_
    refine y_iconst cx d_X5_addLine_55 56 rfl ?_
    refine y_iadd cx d_X5_addLine_56 57 rfl ?_
    refine y_put cx d_X5_addLine_57 60 rfl e_Fr rfl zX5 tyX5_ok nmX5 5 (by decide) q_84 rfl rfl rfl rfl (Nat.le_of_ble_eq_true rfl) h (fun _ h9 => s_Fr_5 h9) (fun Fr_5 h => ?_)
    subst hQ
    obtain rfl := Option.some.inj h
    exact z_vret cx d_X5_addLine_60 rfl
  · subst hQ
    obtain rfl := Option.some.inj h
    exact z_vret cx d_X5_addLine_9 rfl
set_option maxHeartbeats 4000000 in
theorem tAc_forget {l : Launch} {g : ZG} {X : ZB} {N : ZB} {T : ZB} {Rd : ZB} {Fr : ZB} {Ac : ZA} {Ch : ZB} {PS : ZB} {Ly : ZB} {Pa : ZQ} {OT : ZB} {Ea : ZB} {Ga : ZB} {Im0 : ZO} {Im1 : ZO} {La : ZB}  {r : ZA} (h : fAc_forget Ac = some r) : zMv l yX0_forget cX0_forget 1 none zr0 g [.ref (g.2.2 15)] (wX g X N T Rd Fr Ac Ch PS Ly Pa OT Ea Ga Im0 Im1 La) (wX g X N T Rd Fr r Ch PS Ly Pa OT Ea Ga Im0 Im1 La) := by
  unfold fAc_forget at h
  refine zMv_q (own := RX0) rfl (by decide +kernel) (Nat.le_of_ble_eq_true rfl) (lv := [(0, .ref (g.2.2 15))]) rfl ⟨rfl, rfl⟩ ?_
  intro p e s m args below meth c A Q hQ cx
  refine z_aload_n cx d_X0_forget_0 1 rfl rfl 0 rfl ?_
  refine y_iconst cx d_X0_forget_1 2 rfl ?_
  refine y_put cx d_X0_forget_2 5 rfl e_Ac rfl zX0 tyX0_ok nmX0 3 (by decide) q_247 rfl rfl rfl rfl (Nat.le_of_ble_eq_true rfl) h (fun _ h9 => s_Ac_3 h9) (fun Ac_1 h => ?_)
  subst hQ
  obtain rfl := Option.some.inj h
  exact z_vret cx d_X0_forget_5 rfl
set_option maxHeartbeats 4000000 in
theorem tN_hasForest {l : Launch} {g : ZG} {X : ZB} {N : ZB} {T : ZB} {Rd : ZB} {Fr : ZB} {Ac : ZA} {Ch : ZB} {PS : ZB} {Ly : ZB} {Pa : ZQ} {OT : ZB} {Ea : ZB} {Ga : ZB} {Im0 : ZO} {Im1 : ZO} {La : ZB} {a1 : Int} {r : Int} (h : fN_hasForest N a1 = some r) : zMi l yX5_hasForest cX5_hasForest 2 (some .boolean) zr0 g [.ref (g.2.2 1), .int (zI a1)] (wX g X N T Rd Fr Ac Ch PS Ly Pa OT Ea Ga Im0 Im1 La) (wX g X N T Rd Fr Ac Ch PS Ly Pa OT Ea Ga Im0 Im1 La) (zI r) := by
  unfold fN_hasForest at h
  refine zMi_q (own := RX5) rfl (by decide +kernel) (Nat.le_of_ble_eq_true rfl) (lv := [(0, .ref (g.2.2 1)), (1, .int (zI a1))]) rfl ⟨rfl, rfl⟩ ?_
  intro p e s m args below meth c A Q hQ cx
  refine z_iload_n cx d_X5_hasForest_0 1 rfl rfl 1 rfl ?_
  refine kf1_f (P := fun (w0_1 : Int) => V p l e zr0 s m args below meth c A s.heap g 2 Q (wX g X N T Rd Fr Ac Ch PS Ly Pa OT Ea Ga Im0 Im1 La) 0 0 [] 17 [.int (zI w0_1)]) h (fun w0_1 h => ?_) (fun k_2 hk_2 h => ?_)
  · obtain ⟨hz, h⟩ := zo_i h
    subst hQ
    obtain rfl := Option.some.inj h
    exact z_zret cx d_X5_hasForest_17 (zb01 hz) rfl rfl
  refine kf0_f (P := V p l e zr0 s m args below meth c A s.heap g 2 Q (wX g X N T Rd Fr Ac Ch PS Ly Pa OT Ea Ga Im0 Im1 La) 0 0 [] 16 []) h (fun h => ?_) (fun k_3 hk_3 h => ?_)
  · refine y_iconst cx d_X5_hasForest_16 17 rfl ?_
    exact hk_2 _ h
  refine y_if_lt cx d_X5_hasForest_1 4 rfl 16 (by decide) rfl h (fun h => ?_) (fun h => ?_)
  · refine z_sub [] rfl ?_
    exact hk_3  h
  · refine z_iload_n cx d_X5_hasForest_4 5 rfl rfl 1 rfl ?_
    refine z_aload_n cx d_X5_hasForest_5 6 rfl rfl 0 rfl ?_
    refine z_get cx d_X5_hasForest_6 9 rfl e_N rfl zX5 6 (by decide) q_88 rfl rfl ?_
    refine y_icmp_ge cx d_X5_hasForest_9 12 rfl 16 (by decide) rfl rfl h (fun h => ?_) (fun h => ?_)
    · refine z_sub [] rfl ?_
      exact hk_3  h
    · refine y_iconst cx d_X5_hasForest_12 13 rfl ?_
      refine z_goto cx d_X5_hasForest_13 17 (by decide) ?_
      refine z_sub [] rfl ?_
      exact hk_2 _ h
set_option maxHeartbeats 4000000 in
theorem tN_forestSet {l : Launch} {g : ZG} {X : ZB} {N : ZB} {T : ZB} {Rd : ZB} {Fr : ZB} {Ac : ZA} {Ch : ZB} {PS : ZB} {Ly : ZB} {Pa : ZQ} {OT : ZB} {Ea : ZB} {Ga : ZB} {Im0 : ZO} {Im1 : ZO} {La : ZB} {a1 : Int} {r : Int} (h : fN_forestSet N a1 = some r) : zMi l yX5_forestSet cX5_forestSet 4 (some .int) zr0 g [.ref (g.2.2 1), .int (zI a1)] (wX g X N T Rd Fr Ac Ch PS Ly Pa OT Ea Ga Im0 Im1 La) (wX g X N T Rd Fr Ac Ch PS Ly Pa OT Ea Ga Im0 Im1 La) (zI r) := by
  unfold fN_forestSet at h
  refine zMi_q (own := RX5) rfl (by decide +kernel) (Nat.le_of_ble_eq_true rfl) (lv := [(0, .ref (g.2.2 1)), (1, .int (zI a1))]) rfl ⟨rfl, rfl⟩ ?_
  intro p e s m args below meth c A Q hQ cx
  refine y_iconst cx d_X5_forestSet_0 1 rfl ?_
  refine y_istore_n cx d_X5_forestSet_1 2 rfl rfl (by decide) (lv' := [(2, .int (zI 0)), (0, .ref (g.2.2 1)), (1, .int (zI a1))]) rfl ?_
  refine y_iconst cx d_X5_forestSet_2 3 rfl ?_
  refine y_istore_n cx d_X5_forestSet_3 4 rfl rfl (by decide) (lv' := [(3, .int (zI 0)), (2, .int (zI 0)), (0, .ref (g.2.2 1)), (1, .int (zI a1))]) rfl ?_
  refine z_sub [2, 3, 1, 0] rfl ?_
  refine lop2_f (P := fun (v2_1 : Int) (v3_2 : Int) => V p l e zr0 s m args below meth c A s.heap g 4 Q (wX g X N T Rd Fr Ac Ch PS Ly Pa OT Ea Ga Im0 Im1 La) 0 0 [(0, .ref (g.2.2 1)), (1, .int (zI a1)), (2, .int (zI v2_1)), (3, .int (zI v3_2))] 4 []) (fun rec_3 hrec_3 v2_1 v3_2 h => ?_) _ _ _ h
  refine z_iload_n cx d_X5_forestSet_4 5 rfl rfl 3 rfl ?_
  refine z_aload_n cx d_X5_forestSet_5 6 rfl rfl 0 rfl ?_
  refine z_get cx d_X5_forestSet_6 9 rfl e_N rfl zX5 5 (by decide) q_84 rfl rfl ?_
  refine y_icmp_ge cx d_X5_forestSet_9 12 rfl 34 (by decide) rfl rfl h (fun h => ?_) (fun h => ?_)
  · refine z_iload_n cx d_X5_forestSet_34 35 rfl rfl 2 rfl ?_
    subst hQ
    obtain rfl := Option.some.inj h
    exact z_iret cx d_X5_forestSet_35 rfl rfl
  · refine z_aload_n cx d_X5_forestSet_12 13 rfl rfl 0 rfl ?_
    refine z_get cx d_X5_forestSet_13 16 rfl e_N rfl zX5 3 (by decide) q_74 rfl rfl ?_
    refine z_iload_n cx d_X5_forestSet_16 17 rfl rfl 3 rfl ?_
    refine y_ialdx cx d_X5_forestSet_17 18 rfl e_N_home (by decide) h (fun x_4 h => ?_)
    refine z_iload_n cx d_X5_forestSet_18 19 rfl rfl 1 rfl ?_
    refine kf1_f (P := fun (v2_5 : Int) => V p l e zr0 s m args below meth c A s.heap g 4 Q (wX g X N T Rd Fr Ac Ch PS Ly Pa OT Ea Ga Im0 Im1 La) 0 0 [(0, .ref (g.2.2 1)), (1, .int (zI a1)), (2, .int (zI v2_5)), (3, .int (zI v3_2))] 28 []) h (fun v2_5 h => ?_) (fun k_6 hk_6 h => ?_)
    · refine y_iinc cx 3 d_X5_forestSet_28 31 rfl rfl (by decide) (lv' := [(3, .int (zI (v3_2 + 1))), (0, .ref (g.2.2 1)), (1, .int (zI a1)), (2, .int (zI v2_5))]) rfl ?_
      refine z_goto cx d_X5_forestSet_31 4 (by decide) ?_
      refine z_sub [1, 2, 3, 0] rfl ?_
      exact hrec_3 _ _ h
    refine y_icmp_ne cx d_X5_forestSet_19 22 rfl 28 (by decide) rfl rfl h (fun h => ?_) (fun h => ?_)
    · exact hk_6 _ h
    · refine z_iload_n cx d_X5_forestSet_22 23 rfl rfl 2 rfl ?_
      refine y_iconst cx d_X5_forestSet_23 24 rfl ?_
      refine z_iload_n cx d_X5_forestSet_24 25 rfl rfl 3 rfl ?_
      refine y_ishl cx d_X5_forestSet_25 26 rfl ?_
      refine y_ior cx d_X5_forestSet_26 27 rfl ?_
      refine y_istore_n_b cx d_X5_forestSet_27 28 rfl rfl (by decide) (fun y => [(2, .int (zI y)), (0, .ref (g.2.2 1)), (1, .int (zI a1)), (3, .int (zI v3_2))]) (fun y => rfl) h (fun v2_7 h => ?_)
      refine z_sub [1, 2, 0, 3] rfl ?_
      exact hk_6 _ h
set_option maxHeartbeats 4000000 in
theorem tAc_count {l : Launch} {g : ZG} {X : ZB} {N : ZB} {T : ZB} {Rd : ZB} {Fr : ZB} {Ac : ZA} {Ch : ZB} {PS : ZB} {Ly : ZB} {Pa : ZQ} {OT : ZB} {Ea : ZB} {Ga : ZB} {Im0 : ZO} {Im1 : ZO} {La : ZB}  {r : Int} (h : fAc_count Ac = some r) : zMi l yX0_count cX0_count 1 (some .int) zr0 g [.ref (g.2.2 15)] (wX g X N T Rd Fr Ac Ch PS Ly Pa OT Ea Ga Im0 Im1 La) (wX g X N T Rd Fr Ac Ch PS Ly Pa OT Ea Ga Im0 Im1 La) (zI r) := by
  unfold fAc_count at h
  refine zMi_q (own := RX0) rfl (by decide +kernel) (Nat.le_of_ble_eq_true rfl) (lv := [(0, .ref (g.2.2 15))]) rfl ⟨rfl, rfl⟩ ?_
  intro p e s m args below meth c A Q hQ cx
  refine z_aload_n cx d_X0_count_0 1 rfl rfl 0 rfl ?_
  refine z_get cx d_X0_count_1 4 rfl e_Ac rfl zX0 3 (by decide) q_247 rfl rfl ?_
  subst hQ
  obtain rfl := Option.some.inj h
  exact z_iret cx d_X0_count_4 rfl rfl
set_option maxHeartbeats 4000000 in
theorem tN_ends {l : Launch} {g : ZG} {X : ZB} {N : ZB} {T : ZB} {Rd : ZB} {Fr : ZB} {Ac : ZA} {Ch : ZB} {PS : ZB} {Ly : ZB} {Pa : ZQ} {OT : ZB} {Ea : ZB} {Ga : ZB} {Im0 : ZO} {Im1 : ZO} {La : ZB} {a1 : Int} {r : Int} (h : fN_ends N a1 = some r) : zMi l yX5_ends cX5_ends 2 (some .int) zr0 g [.ref (g.2.2 1), .int (zI a1)] (wX g X N T Rd Fr Ac Ch PS Ly Pa OT Ea Ga Im0 Im1 La) (wX g X N T Rd Fr Ac Ch PS Ly Pa OT Ea Ga Im0 Im1 La) (zI r) := by
  unfold fN_ends at h
  refine zMi_q (own := RX5) rfl (by decide +kernel) (Nat.le_of_ble_eq_true rfl) (lv := [(0, .ref (g.2.2 1)), (1, .int (zI a1))]) rfl ⟨rfl, rfl⟩ ?_
  intro p e s m args below meth c A Q hQ cx
  refine y_iconst cx d_X5_ends_0 1 rfl ?_
  refine z_aload_n cx d_X5_ends_1 2 rfl rfl 0 rfl ?_
  refine z_get cx d_X5_ends_2 5 rfl e_N rfl zX5 0 (by decide) q_64 rfl rfl ?_
  refine z_iload_n cx d_X5_ends_5 6 rfl rfl 1 rfl ?_
  refine y_ialdx cx d_X5_ends_6 7 rfl e_N_first (by decide) h (fun x_1 h => ?_)
  refine y_ishl cx d_X5_ends_7 8 rfl ?_
  refine y_iconst cx d_X5_ends_8 9 rfl ?_
  refine z_aload_n cx d_X5_ends_9 10 rfl rfl 0 rfl ?_
  refine z_get cx d_X5_ends_10 13 rfl e_N rfl zX5 1 (by decide) q_68 rfl rfl ?_
  refine z_iload_n cx d_X5_ends_13 14 rfl rfl 1 rfl ?_
  refine y_ialdx cx d_X5_ends_14 15 rfl e_N_second (by decide) h (fun x_2 h => ?_)
  refine y_ishl cx d_X5_ends_15 16 rfl ?_
  refine y_ior cx d_X5_ends_16 17 rfl ?_
  subst hQ
  obtain rfl := Option.some.inj h
  exact z_iret cx d_X5_ends_17 rfl rfl
def zrN_reach : Room := { frames := 1, cells := 0, slots := 0, locals := 21 }
set_option maxHeartbeats 4000000 in
theorem tN_reach {l : Launch} {g : ZG} {X : ZB} {N : ZB} {T : ZB} {Rd : ZB} {Fr : ZB} {Ac : ZA} {Ch : ZB} {PS : ZB} {Ly : ZB} {Pa : ZQ} {OT : ZB} {Ea : ZB} {Ga : ZB} {Im0 : ZO} {Im1 : ZO} {La : ZB} {a1 : Int} {a2 : Int} {r : Int} (h : fN_reach N a1 a2 = some r) : zMi l yX5_reach cX5_reach 7 (some .int) zrN_reach g [.ref (g.2.2 1), .int (zI a1), .int (zI a2)] (wX g X N T Rd Fr Ac Ch PS Ly Pa OT Ea Ga Im0 Im1 La) (wX g X N T Rd Fr Ac Ch PS Ly Pa OT Ea Ga Im0 Im1 La) (zI r) := by
  unfold fN_reach at h
  refine zMi_q (own := RX5) rfl (by decide +kernel) (Nat.le_of_ble_eq_true rfl) (lv := [(0, .ref (g.2.2 1)), (1, .int (zI a1)), (2, .int (zI a2))]) rfl ⟨rfl, rfl⟩ ?_
  intro p e s m args below meth c A Q hQ cx
  refine y_iconst cx d_X5_reach_0 1 rfl ?_
  refine z_iload_n cx d_X5_reach_1 2 rfl rfl 1 rfl ?_
  refine y_ishl cx d_X5_reach_2 3 rfl ?_
  refine y_istore_n_b cx d_X5_reach_3 4 rfl rfl (by decide) (fun y => [(3, .int (zI y)), (0, .ref (g.2.2 1)), (1, .int (zI a1)), (2, .int (zI a2))]) (fun y => rfl) h (fun v3_1 h => ?_)
  refine y_iconst cx d_X5_reach_4 5 rfl ?_
  refine y_istore cx d_X5_reach_5 7 rfl (by decide) (lv' := [(4, .int (zI 0)), (3, .int (zI v3_1)), (0, .ref (g.2.2 1)), (1, .int (zI a1)), (2, .int (zI a2))]) rfl ?_
  refine z_sub [2, 4, 1, 0] rfl ?_
  refine lop2_f (P := fun (v3_2 : Int) (v4_3 : Int) => V p l e zrN_reach s m args below meth c A s.heap g 7 Q (wX g X N T Rd Fr Ac Ch PS Ly Pa OT Ea Ga Im0 Im1 La) 0 0 [(0, .ref (g.2.2 1)), (2, .int (zI a2)), (3, .int (zI v3_2)), (4, .int (zI v4_3))] 7 []) (fun rec_4 hrec_4 v3_2 v4_3 h => ?_) _ _ _ h
  refine z_iload cx d_X5_reach_7 9 rfl 3 rfl ?_
  refine z_aload_n cx d_X5_reach_9 10 rfl rfl 0 rfl ?_
  refine z_get cx d_X5_reach_10 13 rfl e_N rfl zX5 4 (by decide) q_78 rfl rfl ?_
  refine kf1_f (P := fun (v3_5 : Int) => V p l e zrN_reach s m args below meth c A s.heap g 7 Q (wX g X N T Rd Fr Ac Ch PS Ly Pa OT Ea Ga Im0 Im1 La) 0 0 [(3, .int (zI v3_5))] 81 []) h (fun v3_5 h => ?_) (fun k_6 hk_6 h => ?_)
  · refine z_iload_n cx d_X5_reach_81 82 rfl rfl 0 rfl ?_
    subst hQ
    obtain rfl := Option.some.inj h
    exact z_iret cx d_X5_reach_82 rfl rfl
  refine y_icmp_ge cx d_X5_reach_13 16 rfl 81 (by decide) rfl rfl h (fun h => ?_) (fun h => ?_)
  · refine z_sub [2] rfl ?_
    exact hk_6 _ h
  · refine z_iload_n cx d_X5_reach_16 17 rfl rfl 2 rfl ?_
    refine y_istore cx d_X5_reach_17 19 rfl (by decide) (lv' := [(5, .int (zI v3_2)), (0, .ref (g.2.2 1)), (2, .int (zI a2)), (3, .int (zI v3_2)), (4, .int (zI v4_3))]) rfl ?_
    refine y_iconst cx d_X5_reach_19 20 rfl ?_
    refine y_istore cx d_X5_reach_20 22 rfl (by decide) (lv' := [(6, .int (zI 0)), (5, .int (zI v3_2)), (0, .ref (g.2.2 1)), (2, .int (zI a2)), (3, .int (zI v3_2)), (4, .int (zI v4_3))]) rfl ?_
    refine z_sub [2, 3, 4, 5, 1, 0] rfl ?_
    refine lop2_f (P := fun (v3_7 : Int) (v6_8 : Int) => V p l e zrN_reach s m args below meth c A s.heap g 7 Q (wX g X N T Rd Fr Ac Ch PS Ly Pa OT Ea Ga Im0 Im1 La) 0 0 [(0, .ref (g.2.2 1)), (2, .int (zI a2)), (3, .int (zI v3_7)), (4, .int (zI v4_3)), (5, .int (zI v3_2)), (6, .int (zI v6_8))] 22 []) (fun rec_9 hrec_9 v3_7 v6_8 h => ?_) _ _ _ h
    refine z_iload cx d_X5_reach_22 24 rfl 5 rfl ?_
    refine z_aload_n cx d_X5_reach_24 25 rfl rfl 0 rfl ?_
    refine z_get cx d_X5_reach_25 28 rfl e_N rfl zX5 5 (by decide) q_84 rfl rfl ?_
    refine y_icmp_ge cx d_X5_reach_28 31 rfl 66 (by decide) rfl rfl h (fun h => ?_) (fun h => ?_)
    · refine z_iload_n cx d_X5_reach_66 67 rfl rfl 2 rfl ?_
      refine z_iload cx d_X5_reach_67 69 rfl 4 rfl ?_
      refine y_icmp_ne cx d_X5_reach_69 72 rfl 75 (by decide) rfl rfl h (fun h => ?_) (fun h => ?_)
      · refine y_iinc cx 3 d_X5_reach_75 78 rfl rfl (by decide) (lv' := [(4, .int (zI (v4_3 + 1))), (0, .ref (g.2.2 1)), (2, .int (zI a2)), (3, .int (zI v3_7)), (5, .int (zI v3_2)), (6, .int (zI v6_8))]) rfl ?_
        refine z_goto cx d_X5_reach_78 7 (by decide) ?_
        refine z_sub [1, 2, 3, 0] rfl ?_
        exact hrec_4 _ _ h
      · refine z_goto cx d_X5_reach_72 81 (by decide) ?_
        refine z_sub [2] rfl ?_
        exact hk_6 _ h
    · refine z_iload_n cx d_X5_reach_31 32 rfl rfl 1 rfl ?_
      refine z_iload cx d_X5_reach_32 34 rfl 5 rfl ?_
      refine y_ishr cx d_X5_reach_34 35 rfl ?_
      refine y_iconst cx d_X5_reach_35 36 rfl ?_
      refine y_iand cx d_X5_reach_36 37 rfl ?_
      refine kf1_f (P := fun (v3_10 : Int) => V p l e zrN_reach s m args below meth c A s.heap g 7 Q (wX g X N T Rd Fr Ac Ch PS Ly Pa OT Ea Ga Im0 Im1 La) 0 0 [(0, .ref (g.2.2 1)), (2, .int (zI a2)), (3, .int (zI v3_10)), (4, .int (zI v4_3)), (5, .int (zI v3_2)), (6, .int (zI v6_8))] 60 []) h (fun v3_10 h => ?_) (fun k_11 hk_11 h => ?_)
      · refine y_iinc cx 5 d_X5_reach_60 63 rfl rfl (by decide) (lv' := [(6, .int (zI (v6_8 + 1))), (0, .ref (g.2.2 1)), (2, .int (zI a2)), (3, .int (zI v3_10)), (4, .int (zI v4_3)), (5, .int (zI v3_2))]) rfl ?_
        refine z_goto cx d_X5_reach_63 22 (by decide) ?_
        refine z_sub [1, 2, 3, 4, 5, 0] rfl ?_
        exact hrec_9 _ _ h
      refine y_if_eq cx d_X5_reach_37 40 rfl 60 (by decide) (nm_zand _ _) h (fun h => ?_) (fun h => ?_)
      · exact hk_11 _ h
      · refine z_aload_n cx d_X5_reach_40 41 rfl rfl 0 rfl ?_
        refine z_iload cx d_X5_reach_41 43 rfl 5 rfl ?_
        refine y_callV_i (As := [.int (zI v6_8)]) (rest := []) (W := fun u_12 => wX g X N T Rd Fr Ac Ch PS Ly Pa OT Ea Ga Im0 Im1 La) (rf := fun u_12 => zI u_12) (rm := zr0) cx (fun _ hq => tN_ends hq) d_X5_reach_43 46 rfl kk_X5_ends q_856 q_593 q_594 rfl e_N rfl ⟨rfl, rfl⟩ ⟨Nat.le_of_ble_eq_true rfl, Nat.le_of_ble_eq_true rfl⟩ rfl rfl (Nat.le_of_ble_eq_true rfl) ⟨Nat.zero_le _, Nat.zero_le _⟩ h (fun u_12 h => ?_)
        refine z_iload_n cx d_X5_reach_46 47 rfl rfl 2 rfl ?_
        refine y_iand cx d_X5_reach_47 48 rfl ?_
        refine y_if_eq cx d_X5_reach_48 51 rfl 60 (by decide) (nm_zand _ _) h (fun h => ?_) (fun h => ?_)
        · exact hk_11 _ h
        · refine z_iload_n cx d_X5_reach_51 52 rfl rfl 2 rfl ?_
          refine z_aload_n cx d_X5_reach_52 53 rfl rfl 0 rfl ?_
          refine z_iload cx d_X5_reach_53 55 rfl 5 rfl ?_
          refine y_callV_i (As := [.int (zI v6_8)]) (rest := [.int (zI v3_7)]) (W := fun u_13 => wX g X N T Rd Fr Ac Ch PS Ly Pa OT Ea Ga Im0 Im1 La) (rf := fun u_13 => zI u_13) (rm := zr0) cx (fun _ hq => tN_ends hq) d_X5_reach_55 58 rfl kk_X5_ends q_856 q_593 q_594 rfl e_N rfl ⟨rfl, rfl⟩ ⟨Nat.le_of_ble_eq_true rfl, Nat.le_of_ble_eq_true rfl⟩ rfl rfl (Nat.le_of_ble_eq_true rfl) ⟨Nat.zero_le _, Nat.zero_le _⟩ h (fun u_13 h => ?_)
          refine y_ior cx d_X5_reach_58 59 rfl ?_
          refine y_istore_n_b cx d_X5_reach_59 60 rfl rfl (by decide) (fun y => [(3, .int (zI y)), (0, .ref (g.2.2 1)), (2, .int (zI a2)), (4, .int (zI v4_3)), (5, .int (zI v3_2)), (6, .int (zI v6_8))]) (fun y => rfl) h (fun v3_14 h => ?_)
          refine z_sub [1, 2, 0, 3, 4, 5] rfl ?_
          exact hk_11 _ h
def zrN_pieces : Room := { frames := 2, cells := 0, slots := 0, locals := 47 }
set_option maxHeartbeats 4000000 in
theorem tN_pieces {l : Launch} {g : ZG} {X : ZB} {N : ZB} {T : ZB} {Rd : ZB} {Fr : ZB} {Ac : ZA} {Ch : ZB} {PS : ZB} {Ly : ZB} {Pa : ZQ} {OT : ZB} {Ea : ZB} {Ga : ZB} {Im0 : ZO} {Im1 : ZO} {La : ZB} {a1 : Int} {r : Int} (h : fN_pieces N a1 = some r) : zMi l yX5_pieces cX5_pieces 5 (some .int) zrN_pieces g [.ref (g.2.2 1), .int (zI a1)] (wX g X N T Rd Fr Ac Ch PS Ly Pa OT Ea Ga Im0 Im1 La) (wX g X N T Rd Fr Ac Ch PS Ly Pa OT Ea Ga Im0 Im1 La) (zI r) := by
  unfold fN_pieces at h
  refine zMi_q (own := RX5) rfl (by decide +kernel) (Nat.le_of_ble_eq_true rfl) (lv := [(0, .ref (g.2.2 1)), (1, .int (zI a1))]) rfl ⟨rfl, rfl⟩ ?_
  intro p e s m args below meth c A Q hQ cx
  refine y_iconst cx d_X5_pieces_0 1 rfl ?_
  refine y_istore_n cx d_X5_pieces_1 2 rfl rfl (by decide) (lv' := [(2, .int (zI 0)), (0, .ref (g.2.2 1)), (1, .int (zI a1))]) rfl ?_
  refine y_iconst cx d_X5_pieces_2 3 rfl ?_
  refine y_istore_n cx d_X5_pieces_3 4 rfl rfl (by decide) (lv' := [(3, .int (zI 0)), (2, .int (zI 0)), (0, .ref (g.2.2 1)), (1, .int (zI a1))]) rfl ?_
  refine y_iconst cx d_X5_pieces_4 5 rfl ?_
  refine y_istore cx d_X5_pieces_5 7 rfl (by decide) (lv' := [(4, .int (zI 0)), (3, .int (zI 0)), (2, .int (zI 0)), (0, .ref (g.2.2 1)), (1, .int (zI a1))]) rfl ?_
  refine z_sub [3, 4, 2, 1, 0] rfl ?_
  refine lop3_f (P := fun (v2_1 : Int) (v3_2 : Int) (v4_3 : Int) => V p l e zrN_pieces s m args below meth c A s.heap g 5 Q (wX g X N T Rd Fr Ac Ch PS Ly Pa OT Ea Ga Im0 Im1 La) 0 0 [(0, .ref (g.2.2 1)), (1, .int (zI a1)), (2, .int (zI v2_1)), (3, .int (zI v3_2)), (4, .int (zI v4_3))] 7 []) (fun rec_4 hrec_4 v2_1 v3_2 v4_3 h => ?_) _ _ _ _ h
  refine z_iload cx d_X5_pieces_7 9 rfl 4 rfl ?_
  refine z_aload_n cx d_X5_pieces_9 10 rfl rfl 0 rfl ?_
  refine z_get cx d_X5_pieces_10 13 rfl e_N rfl zX5 4 (by decide) q_78 rfl rfl ?_
  refine y_icmp_ge cx d_X5_pieces_13 16 rfl 44 (by decide) rfl rfl h (fun h => ?_) (fun h => ?_)
  · refine z_iload_n cx d_X5_pieces_44 45 rfl rfl 2 rfl ?_
    subst hQ
    obtain rfl := Option.some.inj h
    exact z_iret cx d_X5_pieces_45 rfl rfl
  · refine z_iload_n cx d_X5_pieces_16 17 rfl rfl 3 rfl ?_
    refine z_iload cx d_X5_pieces_17 19 rfl 4 rfl ?_
    refine y_ishr cx d_X5_pieces_19 20 rfl ?_
    refine y_iconst cx d_X5_pieces_20 21 rfl ?_
    refine y_iand cx d_X5_pieces_21 22 rfl ?_
    refine kf2_f (P := fun (v2_5 : Int) (v3_6 : Int) => V p l e zrN_pieces s m args below meth c A s.heap g 5 Q (wX g X N T Rd Fr Ac Ch PS Ly Pa OT Ea Ga Im0 Im1 La) 0 0 [(0, .ref (g.2.2 1)), (1, .int (zI a1)), (2, .int (zI v2_5)), (3, .int (zI v3_6)), (4, .int (zI v4_3))] 38 []) h (fun v2_5 v3_6 h => ?_) (fun k_7 hk_7 h => ?_)
    · refine y_iinc cx 4 d_X5_pieces_38 41 rfl rfl (by decide) (lv' := [(4, .int (zI (v4_3 + 1))), (0, .ref (g.2.2 1)), (1, .int (zI a1)), (2, .int (zI v2_5)), (3, .int (zI v3_6))]) rfl ?_
      refine z_goto cx d_X5_pieces_41 7 (by decide) ?_
      refine z_sub [1, 2, 3, 4, 0] rfl ?_
      exact hrec_4 _ _ _ h
    refine y_if_ne cx d_X5_pieces_22 25 rfl 38 (by decide) (nm_zand _ _) h (fun h => ?_) (fun h => ?_)
    · exact hk_7 _ _ h
    · refine z_iload_n cx d_X5_pieces_25 26 rfl rfl 3 rfl ?_
      refine z_aload_n cx d_X5_pieces_26 27 rfl rfl 0 rfl ?_
      refine z_iload cx d_X5_pieces_27 29 rfl 4 rfl ?_
      refine z_iload_n cx d_X5_pieces_29 30 rfl rfl 1 rfl ?_
      refine y_callV_i (As := [.int (zI v4_3), .int (zI a1)]) (rest := [.int (zI v3_2)]) (W := fun u_8 => wX g X N T Rd Fr Ac Ch PS Ly Pa OT Ea Ga Im0 Im1 La) (rf := fun u_8 => zI u_8) (rm := zrN_reach) cx (fun _ hq => tN_reach hq) d_X5_pieces_30 33 rfl kk_X5_reach q_852 q_853 q_854 rfl e_N rfl ⟨rfl, rfl⟩ ⟨Nat.le_of_ble_eq_true rfl, Nat.le_of_ble_eq_true rfl⟩ rfl rfl (Nat.le_of_ble_eq_true rfl) ⟨Nat.zero_le _, Nat.zero_le _⟩ h (fun u_8 h => ?_)
      refine y_ior cx d_X5_pieces_33 34 rfl ?_
      refine y_istore_n_b cx d_X5_pieces_34 35 rfl rfl (by decide) (fun y => [(3, .int (zI y)), (0, .ref (g.2.2 1)), (1, .int (zI a1)), (2, .int (zI v2_1)), (4, .int (zI v4_3))]) (fun y => rfl) h (fun v3_9 h => ?_)
      refine y_iinc cx 3 d_X5_pieces_35 38 rfl rfl (by decide) (lv' := [(2, .int (zI (v2_1 + 1))), (3, .int (zI v3_9)), (0, .ref (g.2.2 1)), (1, .int (zI a1)), (4, .int (zI v4_3))]) rfl ?_
      refine z_sub [2, 3, 0, 1, 4] rfl ?_
      exact hk_7 _ _ h
set_option maxHeartbeats 4000000 in
theorem tN_soundSet {l : Launch} {g : ZG} {X : ZB} {N : ZB} {T : ZB} {Rd : ZB} {Fr : ZB} {Ac : ZA} {Ch : ZB} {PS : ZB} {Ly : ZB} {Pa : ZQ} {OT : ZB} {Ea : ZB} {Ga : ZB} {Im0 : ZO} {Im1 : ZO} {La : ZB}  {r : Int} (h : fN_soundSet N = some r) : zMi l yX5_soundSet cX5_soundSet 1 (some .int) zr0 g [.ref (g.2.2 1)] (wX g X N T Rd Fr Ac Ch PS Ly Pa OT Ea Ga Im0 Im1 La) (wX g X N T Rd Fr Ac Ch PS Ly Pa OT Ea Ga Im0 Im1 La) (zI r) := by
  unfold fN_soundSet at h
  refine zMi_q (own := RX5) rfl (by decide +kernel) (Nat.le_of_ble_eq_true rfl) (lv := [(0, .ref (g.2.2 1))]) rfl ⟨rfl, rfl⟩ ?_
  intro p e s m args below meth c A Q hQ cx
  refine y_iconst cx d_X5_soundSet_0 1 rfl ?_
  refine z_aload_n cx d_X5_soundSet_1 2 rfl rfl 0 rfl ?_
  refine z_get cx d_X5_soundSet_2 5 rfl e_N rfl zX5 5 (by decide) q_84 rfl rfl ?_
  refine y_ishl cx d_X5_soundSet_5 6 rfl ?_
  refine y_iconst cx d_X5_soundSet_6 7 rfl ?_
  refine y_isub cx d_X5_soundSet_7 8 rfl ?_
  refine z_aload_n cx d_X5_soundSet_8 9 rfl rfl 0 rfl ?_
  refine z_get cx d_X5_soundSet_9 12 rfl e_N rfl zX5 7 (by decide) q_92 rfl rfl ?_
  refine y_iconst cx d_X5_soundSet_12 13 rfl ?_
  refine y_ixor cx d_X5_soundSet_13 14 rfl ?_
  refine y_iand cx d_X5_soundSet_14 15 rfl ?_
  subst hQ
  obtain rfl := Option.some.inj h
  exact z_iret cx d_X5_soundSet_15 rfl rfl
set_option maxHeartbeats 4000000 in
theorem tJI_bitCount {l : Launch} {g : ZG} {w : va_W} {a1 : Int} {r : Int} (h : fJI_bitCount a1 = some r) : zMi l yB_bitCount cB_bitCount 1 (some .int) zr0 g [.int (zI a1)] (w) (w) (zI r) := by
  unfold fJI_bitCount at h
  refine zMi_q (own := "java/lang/Integer") rfl (by decide +kernel) (Nat.le_of_ble_eq_true rfl) (lv := [(0, .int (zI a1))]) rfl ⟨rfl, rfl⟩ ?_
  intro p e s m args below meth c A Q hQ cx
  refine z_iload_n cx d_B_bitCount_0 1 rfl rfl 0 rfl ?_
  refine z_iload_n cx d_B_bitCount_1 2 rfl rfl 0 rfl ?_
  refine y_iconst cx d_B_bitCount_2 3 rfl ?_
  refine y_iushr cx d_B_bitCount_3 4 rfl ?_
  refine y_ldc_w cx 1431655765 d_B_bitCount_4 7 rfl q_603 ?_
  refine y_iand cx d_B_bitCount_7 8 rfl ?_
  refine y_isub cx d_B_bitCount_8 9 rfl ?_
  refine y_istore_n_b cx d_B_bitCount_9 10 rfl rfl (by decide) (fun y => [(0, .int (zI y))]) (fun y => rfl) h (fun v0_1 h => ?_)
  refine z_iload_n cx d_B_bitCount_10 11 rfl rfl 0 rfl ?_
  refine y_ldc_w cx 858993459 d_B_bitCount_11 14 rfl q_604 ?_
  refine y_iand cx d_B_bitCount_14 15 rfl ?_
  refine z_iload_n cx d_B_bitCount_15 16 rfl rfl 0 rfl ?_
  refine y_iconst cx d_B_bitCount_16 17 rfl ?_
  refine y_iushr cx d_B_bitCount_17 18 rfl ?_
  refine y_ldc_w cx 858993459 d_B_bitCount_18 21 rfl q_604 ?_
  refine y_iand cx d_B_bitCount_21 22 rfl ?_
  refine y_iadd cx d_B_bitCount_22 23 rfl ?_
  refine y_istore_n_b cx d_B_bitCount_23 24 rfl rfl (by decide) (fun y => [(0, .int (zI y))]) (fun y => rfl) h (fun v0_2 h => ?_)
  refine z_iload_n cx d_B_bitCount_24 25 rfl rfl 0 rfl ?_
  refine z_iload_n cx d_B_bitCount_25 26 rfl rfl 0 rfl ?_
  refine y_iconst cx d_B_bitCount_26 27 rfl ?_
  refine y_iushr cx d_B_bitCount_27 28 rfl ?_
  refine y_iadd cx d_B_bitCount_28 29 rfl ?_
  refine y_ldc_w cx 252645135 d_B_bitCount_29 32 rfl q_605 ?_
  refine y_iand cx d_B_bitCount_32 33 rfl ?_
  refine y_istore_n_b cx d_B_bitCount_33 34 rfl rfl (by decide) (fun y => [(0, .int (zI y))]) (fun y => rfl) h (fun v0_3 h => ?_)
  refine z_iload_n cx d_B_bitCount_34 35 rfl rfl 0 rfl ?_
  refine z_iload_n cx d_B_bitCount_35 36 rfl rfl 0 rfl ?_
  refine y_bipush cx d_B_bitCount_36 38 rfl (by decide) ?_
  refine y_iushr cx d_B_bitCount_38 39 rfl ?_
  refine y_iadd cx d_B_bitCount_39 40 rfl ?_
  refine y_istore_n_b cx d_B_bitCount_40 41 rfl rfl (by decide) (fun y => [(0, .int (zI y))]) (fun y => rfl) h (fun v0_4 h => ?_)
  refine z_iload_n cx d_B_bitCount_41 42 rfl rfl 0 rfl ?_
  refine z_iload_n cx d_B_bitCount_42 43 rfl rfl 0 rfl ?_
  refine y_bipush cx d_B_bitCount_43 45 rfl (by decide) ?_
  refine y_iushr cx d_B_bitCount_45 46 rfl ?_
  refine y_iadd cx d_B_bitCount_46 47 rfl ?_
  refine y_istore_n_b cx d_B_bitCount_47 48 rfl rfl (by decide) (fun y => [(0, .int (zI y))]) (fun y => rfl) h (fun v0_5 h => ?_)
  refine z_iload_n cx d_B_bitCount_48 49 rfl rfl 0 rfl ?_
  refine y_bipush cx d_B_bitCount_49 51 rfl (by decide) ?_
  refine y_iand cx d_B_bitCount_51 52 rfl ?_
  subst hQ
  obtain rfl := Option.some.inj h
  exact z_iret cx d_B_bitCount_52 rfl rfl
def zrN_packed : Room := { frames := 1, cells := 0, slots := 0, locals := 23 }
set_option maxHeartbeats 4000000 in
theorem tN_packed {l : Launch} {g : ZG} {X : ZB} {N : ZB} {T : ZB} {Rd : ZB} {Fr : ZB} {Ac : ZA} {Ch : ZB} {PS : ZB} {Ly : ZB} {Pa : ZQ} {OT : ZB} {Ea : ZB} {Ga : ZB} {Im0 : ZO} {Im1 : ZO} {La : ZB}  {r : Int} (h : fN_packed N = some r) : zMi l yX5_packed cX5_packed 1 (some .int) zrN_packed g [.ref (g.2.2 1)] (wX g X N T Rd Fr Ac Ch PS Ly Pa OT Ea Ga Im0 Im1 La) (wX g X N T Rd Fr Ac Ch PS Ly Pa OT Ea Ga Im0 Im1 La) (zI r) := by
  unfold fN_packed at h
  refine zMi_q (own := RX5) rfl (by decide +kernel) (Nat.le_of_ble_eq_true rfl) (lv := [(0, .ref (g.2.2 1))]) rfl ⟨rfl, rfl⟩ ?_
  intro p e s m args below meth c A Q hQ cx
  refine z_aload_n cx d_X5_packed_0 1 rfl rfl 0 rfl ?_
  refine z_get cx d_X5_packed_1 4 rfl e_N rfl zX5 5 (by decide) q_84 rfl rfl ?_
  refine z_aload_n cx d_X5_packed_4 5 rfl rfl 0 rfl ?_
  refine y_iconst cx d_X5_packed_5 6 rfl ?_
  refine y_callV_i (As := [.int (zI (-1))]) (rest := [.int (zI (N.1 5))]) (W := fun u_1 => wX g X N T Rd Fr Ac Ch PS Ly Pa OT Ea Ga Im0 Im1 La) (rf := fun u_1 => zI u_1) (rm := zr0) cx (fun _ hq => tN_forestSet hq) d_X5_packed_6 9 rfl kk_X5_forestSet q_846 q_480 q_481 rfl e_N rfl ⟨rfl, rfl⟩ ⟨Nat.le_of_ble_eq_true rfl, Nat.le_of_ble_eq_true rfl⟩ rfl rfl (Nat.le_of_ble_eq_true rfl) ⟨Nat.zero_le _, Nat.zero_le _⟩ h (fun u_1 h => ?_)
  refine y_callS_i (As := [.int (zI u_1)]) (rest := [.int (zI (N.1 5))]) (W := fun u_2 => wX g X N T Rd Fr Ac Ch PS Ly Pa OT Ea Ga Im0 Im1 La) (rf := fun u_2 => zI u_2) (rm := zr0) cx (fun _ hq => tJI_bitCount hq) d_X5_packed_9 12 rfl kk_B_bitCount q_847 q_601 ⟨rfl, rfl⟩ ⟨Nat.le_of_ble_eq_true rfl, Nat.le_of_ble_eq_true rfl⟩ rfl rfl (Nat.le_of_ble_eq_true rfl) ⟨Nat.zero_le _, Nat.zero_le _⟩ h (fun u_2 h => ?_)
  refine y_isub cx d_X5_packed_12 13 rfl ?_
  subst hQ
  obtain rfl := Option.some.inj h
  exact z_iret cx d_X5_packed_13 rfl rfl
set_option maxHeartbeats 4000000 in
theorem tN_hasLine {l : Launch} {g : ZG} {X : ZB} {N : ZB} {T : ZB} {Rd : ZB} {Fr : ZB} {Ac : ZA} {Ch : ZB} {PS : ZB} {Ly : ZB} {Pa : ZQ} {OT : ZB} {Ea : ZB} {Ga : ZB} {Im0 : ZO} {Im1 : ZO} {La : ZB} {a1 : Int} {r : Int} (h : fN_hasLine N a1 = some r) : zMi l yX5_hasLine cX5_hasLine 2 (some .boolean) zr0 g [.ref (g.2.2 1), .int (zI a1)] (wX g X N T Rd Fr Ac Ch PS Ly Pa OT Ea Ga Im0 Im1 La) (wX g X N T Rd Fr Ac Ch PS Ly Pa OT Ea Ga Im0 Im1 La) (zI r) := by
  unfold fN_hasLine at h
  refine zMi_q (own := RX5) rfl (by decide +kernel) (Nat.le_of_ble_eq_true rfl) (lv := [(0, .ref (g.2.2 1)), (1, .int (zI a1))]) rfl ⟨rfl, rfl⟩ ?_
  intro p e s m args below meth c A Q hQ cx
  refine z_iload_n cx d_X5_hasLine_0 1 rfl rfl 1 rfl ?_
  refine kf1_f (P := fun (w0_1 : Int) => V p l e zr0 s m args below meth c A s.heap g 2 Q (wX g X N T Rd Fr Ac Ch PS Ly Pa OT Ea Ga Im0 Im1 La) 0 0 [] 17 [.int (zI w0_1)]) h (fun w0_1 h => ?_) (fun k_2 hk_2 h => ?_)
  · obtain ⟨hz, h⟩ := zo_i h
    subst hQ
    obtain rfl := Option.some.inj h
    exact z_zret cx d_X5_hasLine_17 (zb01 hz) rfl rfl
  refine kf0_f (P := V p l e zr0 s m args below meth c A s.heap g 2 Q (wX g X N T Rd Fr Ac Ch PS Ly Pa OT Ea Ga Im0 Im1 La) 0 0 [] 16 []) h (fun h => ?_) (fun k_3 hk_3 h => ?_)
  · refine y_iconst cx d_X5_hasLine_16 17 rfl ?_
    exact hk_2 _ h
  refine y_if_lt cx d_X5_hasLine_1 4 rfl 16 (by decide) rfl h (fun h => ?_) (fun h => ?_)
  · refine z_sub [] rfl ?_
    exact hk_3  h
  · refine z_iload_n cx d_X5_hasLine_4 5 rfl rfl 1 rfl ?_
    refine z_aload_n cx d_X5_hasLine_5 6 rfl rfl 0 rfl ?_
    refine z_get cx d_X5_hasLine_6 9 rfl e_N rfl zX5 5 (by decide) q_84 rfl rfl ?_
    refine y_icmp_ge cx d_X5_hasLine_9 12 rfl 16 (by decide) rfl rfl h (fun h => ?_) (fun h => ?_)
    · refine z_sub [] rfl ?_
      exact hk_3  h
    · refine y_iconst cx d_X5_hasLine_12 13 rfl ?_
      refine z_goto cx d_X5_hasLine_13 17 (by decide) ?_
      refine z_sub [] rfl ?_
      exact hk_2 _ h
set_option maxHeartbeats 4000000 in
theorem tN_isSound {l : Launch} {g : ZG} {X : ZB} {N : ZB} {T : ZB} {Rd : ZB} {Fr : ZB} {Ac : ZA} {Ch : ZB} {PS : ZB} {Ly : ZB} {Pa : ZQ} {OT : ZB} {Ea : ZB} {Ga : ZB} {Im0 : ZO} {Im1 : ZO} {La : ZB} {a1 : Int} {r : Int} (h : fN_isSound N a1 = some r) : zMi l yX5_isSound cX5_isSound 2 (some .boolean) zr0 g [.ref (g.2.2 1), .int (zI a1)] (wX g X N T Rd Fr Ac Ch PS Ly Pa OT Ea Ga Im0 Im1 La) (wX g X N T Rd Fr Ac Ch PS Ly Pa OT Ea Ga Im0 Im1 La) (zI r) := by
  unfold fN_isSound at h
  refine zMi_q (own := RX5) rfl (by decide +kernel) (Nat.le_of_ble_eq_true rfl) (lv := [(0, .ref (g.2.2 1)), (1, .int (zI a1))]) rfl ⟨rfl, rfl⟩ ?_
  intro p e s m args below meth c A Q hQ cx
  refine z_aload_n cx d_X5_isSound_0 1 rfl rfl 0 rfl ?_
  refine z_get cx d_X5_isSound_1 4 rfl e_N rfl zX5 7 (by decide) q_92 rfl rfl ?_
  refine z_iload_n cx d_X5_isSound_4 5 rfl rfl 1 rfl ?_
  refine y_ishr cx d_X5_isSound_5 6 rfl ?_
  refine y_iconst cx d_X5_isSound_6 7 rfl ?_
  refine y_iand cx d_X5_isSound_7 8 rfl ?_
  refine kf1_f (P := fun (w0_1 : Int) => V p l e zr0 s m args below meth c A s.heap g 2 Q (wX g X N T Rd Fr Ac Ch PS Ly Pa OT Ea Ga Im0 Im1 La) 0 0 [] 16 [.int (zI w0_1)]) h (fun w0_1 h => ?_) (fun k_2 hk_2 h => ?_)
  · obtain ⟨hz, h⟩ := zo_i h
    subst hQ
    obtain rfl := Option.some.inj h
    exact z_zret cx d_X5_isSound_16 (zb01 hz) rfl rfl
  refine y_if_ne cx d_X5_isSound_8 11 rfl 15 (by decide) (nm_zand _ _) h (fun h => ?_) (fun h => ?_)
  · refine y_iconst cx d_X5_isSound_15 16 rfl ?_
    refine z_sub [] rfl ?_
    exact hk_2 _ h
  · refine y_iconst cx d_X5_isSound_11 12 rfl ?_
    refine z_goto cx d_X5_isSound_12 16 (by decide) ?_
    refine z_sub [] rfl ?_
    exact hk_2 _ h
def zrAc_before : Room := { frames := 3, cells := 0, slots := 0, locals := 120 }
set_option maxHeartbeats 4000000 in
theorem tAc_before {l : Launch} {g : ZG} {X : ZB} {N : ZB} {T : ZB} {Rd : ZB} {Fr : ZB} {Ac : ZA} {Ch : ZB} {PS : ZB} {Ly : ZB} {Pa : ZQ} {OT : ZB} {Ea : ZB} {Ga : ZB} {Im0 : ZO} {Im1 : ZO} {La : ZB}  {r : ZA} (h : fAc_before N Ac = some r) : zMv l yX0_before cX0_before 1 none zrAc_before g [.ref (g.2.2 15)] (wX g X N T Rd Fr Ac Ch PS Ly Pa OT Ea Ga Im0 Im1 La) (wX g X N T Rd Fr r Ch PS Ly Pa OT Ea Ga Im0 Im1 La) := by
  unfold fAc_before at h
  refine zMv_q (own := RX0) rfl (by decide +kernel) (Nat.le_of_ble_eq_true rfl) (lv := [(0, .ref (g.2.2 15))]) rfl ⟨rfl, rfl⟩ ?_
  intro p e s m args below meth c A Q hQ cx
  refine z_aload_n cx d_X0_before_0 1 rfl rfl 0 rfl ?_
  refine z_get cx d_X0_before_1 4 rfl e_Ac rfl zX0 1 (by decide) q_245 rfl rfl ?_
  refine z_aload_n cx d_X0_before_4 5 rfl rfl 0 rfl ?_
  refine z_get cx d_X0_before_5 8 rfl e_Ac rfl zX0 2 (by decide) q_246 rfl rfl ?_
  refine y_aald cx d_X0_before_8 9 rfl e_Ac_kept (by decide) h (fun hi_1 h => ?_)
  refine z_aload_n cx d_X0_before_9 10 rfl rfl 0 rfl ?_
  refine z_get cx d_X0_before_10 13 rfl e_Ac rfl zX0 0 (by decide) q_244 rfl rfl ?_
  refine y_callV_v (As := [.ref (g.2.2 1)]) (rest := []) (W := fun u_2 => wX g X N T Rd Fr (Ac.1, ua Ac.2 (Int.toNat (Ac.1 2)) u_2) Ch PS Ly Pa OT Ea Ga Im0 Im1 La) (rm := zrN_become) cx (fun _ hq => tN_become_K_N (by omega) hq) d_X0_before_13 16 rfl kk_X5_become q_511 q_512 q_513 rfl (e_K (by omega)) rfl ⟨rfl, rfl⟩ ⟨Nat.le_of_ble_eq_true rfl, Nat.le_of_ble_eq_true rfl⟩ rfl rfl (Nat.le_of_ble_eq_true rfl) ⟨Nat.zero_le _, Nat.zero_le _⟩ h (fun u_2 h => ?_)
  subst hQ
  obtain rfl := Option.some.inj h
  exact z_vret cx d_X0_before_16 rfl
set_option maxHeartbeats 4000000 in
theorem tAc_done {l : Launch} {g : ZG} {X : ZB} {N : ZB} {T : ZB} {Rd : ZB} {Fr : ZB} {Ac : ZA} {Ch : ZB} {PS : ZB} {Ly : ZB} {Pa : ZQ} {OT : ZB} {Ea : ZB} {Ga : ZB} {Im0 : ZO} {Im1 : ZO} {La : ZB}  {r : ZA} (h : fAc_done Ac = some r) : zMv l yX0_done cX0_done 1 none zr0 g [.ref (g.2.2 15)] (wX g X N T Rd Fr Ac Ch PS Ly Pa OT Ea Ga Im0 Im1 La) (wX g X N T Rd Fr r Ch PS Ly Pa OT Ea Ga Im0 Im1 La) := by
  unfold fAc_done at h
  refine zMv_q (own := RX0) rfl (by decide +kernel) (Nat.le_of_ble_eq_true rfl) (lv := [(0, .ref (g.2.2 15))]) rfl ⟨rfl, rfl⟩ ?_
  intro p e s m args below meth c A Q hQ cx
  refine z_aload_n cx d_X0_done_0 1 rfl rfl 0 rfl ?_
  refine z_aload_n cx d_X0_done_1 2 rfl rfl 0 rfl ?_
  refine z_get cx d_X0_done_2 5 rfl e_Ac rfl zX0 2 (by decide) q_246 rfl rfl ?_
  refine y_bipush cx d_X0_done_5 7 rfl (by decide) ?_
  refine kf1_f (P := fun (w1_1 : Int) => V p l e zr0 s m args below meth c A s.heap g 1 Q (wX g X N T Rd Fr Ac Ch PS Ly Pa OT Ea Ga Im0 Im1 La) 0 0 [(0, .ref (g.2.2 15))] 20 [.int (zI w1_1), .ref (g.2.2 15)]) h (fun w1_1 h => ?_) (fun k_2 hk_2 h => ?_)
  · refine y_put cx d_X0_done_20 23 rfl e_Ac rfl zX0 tyX0_ok nmX0 2 (by decide) q_246 rfl rfl rfl rfl (Nat.le_of_ble_eq_true rfl) h (fun _ h9 => s_Ac_2 h9) (fun Ac_3 h => ?_)
    refine z_aload_n cx d_X0_done_23 24 rfl rfl 0 rfl ?_
    refine z_get cx d_X0_done_24 27 rfl e_Ac rfl zX0 3 (by decide) q_247 rfl rfl ?_
    refine y_bipush cx d_X0_done_27 29 rfl (by decide) ?_
    refine kf1_f (P := fun (Ac_4 : ZA) => V p l e zr0 s m args below meth c A s.heap g 1 Q (wX g X N T Rd Fr Ac_4 Ch PS Ly Pa OT Ea Ga Im0 Im1 La) 0 0 [] 42 []) h (fun Ac_4 h => ?_) (fun k_5 hk_5 h => ?_)
    · subst hQ
      obtain rfl := Option.some.inj h
      exact z_vret cx d_X0_done_42 rfl
    refine y_icmp_ge cx d_X0_done_29 32 rfl 42 (by decide) rfl (nm_eq (x := 8) (by decide) (by decide)) h (fun h => ?_) (fun h => ?_)
    · refine z_sub [] rfl ?_
      exact hk_5 _ h
    · refine z_aload_n cx d_X0_done_32 33 rfl rfl 0 rfl ?_
      refine z_dup cx d_X0_done_33 34 rfl rfl ?_
      refine z_get cx d_X0_done_34 37 rfl e_Ac rfl zX0 3 (by decide) q_247 rfl rfl ?_
      refine y_iconst cx d_X0_done_37 38 rfl ?_
      refine y_iadd cx d_X0_done_38 39 rfl ?_
      refine y_put cx d_X0_done_39 42 rfl e_Ac rfl zX0 tyX0_ok nmX0 3 (by decide) q_247 rfl rfl rfl rfl (Nat.le_of_ble_eq_true rfl) h (fun _ h9 => s_Ac_3 h9) (fun Ac_6 h => ?_)
      refine z_sub [] rfl ?_
      exact hk_5 _ h
  refine y_icmp_ge cx d_X0_done_7 10 rfl 19 (by decide) rfl (nm_eq (x := 8) (by decide) (by decide)) h (fun h => ?_) (fun h => ?_)
  · refine y_iconst cx d_X0_done_19 20 rfl ?_
    exact hk_2 _ h
  · refine z_aload_n cx d_X0_done_10 11 rfl rfl 0 rfl ?_
    refine z_get cx d_X0_done_11 14 rfl e_Ac rfl zX0 2 (by decide) q_246 rfl rfl ?_
    refine y_iconst cx d_X0_done_14 15 rfl ?_
    refine y_iadd cx d_X0_done_15 16 rfl ?_
    refine z_goto cx d_X0_done_16 20 (by decide) ?_
    exact hk_2 _ h
set_option maxHeartbeats 4000000 in
theorem tN_breakLine {l : Launch} {g : ZG} {X : ZB} {N : ZB} {T : ZB} {Rd : ZB} {Fr : ZB} {Ac : ZA} {Ch : ZB} {PS : ZB} {Ly : ZB} {Pa : ZQ} {OT : ZB} {Ea : ZB} {Ga : ZB} {Im0 : ZO} {Im1 : ZO} {La : ZB} {a1 : Int} {r : ZB} (h : fN_breakLine N a1 = some r) : zMv l yX5_breakLine cX5_breakLine 2 none zr0 g [.ref (g.2.2 1), .int (zI a1)] (wX g X N T Rd Fr Ac Ch PS Ly Pa OT Ea Ga Im0 Im1 La) (wX g X r T Rd Fr Ac Ch PS Ly Pa OT Ea Ga Im0 Im1 La) := by
  unfold fN_breakLine at h
  refine zMv_q (own := RX5) rfl (by decide +kernel) (Nat.le_of_ble_eq_true rfl) (lv := [(0, .ref (g.2.2 1)), (1, .int (zI a1))]) rfl ⟨rfl, rfl⟩ ?_
  intro p e s m args below meth c A Q hQ cx
  refine z_aload_n cx d_X5_breakLine_0 1 rfl rfl 0 rfl ?_
  refine z_get cx d_X5_breakLine_1 4 rfl e_N rfl zX5 3 (by decide) q_74 rfl rfl ?_
  refine z_iload_n cx d_X5_breakLine_4 5 rfl rfl 1 rfl ?_
  refine y_iconst cx d_X5_breakLine_5 6 rfl ?_
  refine y_iast cx d_X5_breakLine_6 7 rfl e_N_home (by decide) h (fun _ h9 => s_N_home h9) (fun N_1 h => ?_)
  refine z_aload_n cx d_X5_breakLine_7 8 rfl rfl 0 rfl ?_
  refine z_dup cx d_X5_breakLine_8 9 rfl rfl ?_
  refine z_get cx d_X5_breakLine_9 12 rfl e_N rfl zX5 7 (by decide) q_92 rfl rfl ?_
  refine y_iconst cx d_X5_breakLine_12 13 rfl ?_
  refine z_iload_n cx d_X5_breakLine_13 14 rfl rfl 1 rfl ?_
  refine y_ishl cx d_X5_breakLine_14 15 rfl ?_
  refine y_ior cx d_X5_breakLine_15 16 rfl ?_
  refine y_put cx d_X5_breakLine_16 19 rfl e_N rfl zX5 tyX5_ok nmX5 7 (by decide) q_92 rfl rfl rfl rfl (Nat.le_of_ble_eq_true rfl) h (fun _ h9 => s_N_7 h9) (fun N_2 h => ?_)
  subst hQ
  obtain rfl := Option.some.inj h
  exact z_vret cx d_X5_breakLine_19 rfl
set_option maxHeartbeats 4000000 in
theorem tN_mendLine {l : Launch} {g : ZG} {X : ZB} {N : ZB} {T : ZB} {Rd : ZB} {Fr : ZB} {Ac : ZA} {Ch : ZB} {PS : ZB} {Ly : ZB} {Pa : ZQ} {OT : ZB} {Ea : ZB} {Ga : ZB} {Im0 : ZO} {Im1 : ZO} {La : ZB} {a1 : Int} {r : ZB} (h : fN_mendLine N a1 = some r) : zMv l yX5_mendLine cX5_mendLine 2 none zr0 g [.ref (g.2.2 1), .int (zI a1)] (wX g X N T Rd Fr Ac Ch PS Ly Pa OT Ea Ga Im0 Im1 La) (wX g X r T Rd Fr Ac Ch PS Ly Pa OT Ea Ga Im0 Im1 La) := by
  unfold fN_mendLine at h
  refine zMv_q (own := RX5) rfl (by decide +kernel) (Nat.le_of_ble_eq_true rfl) (lv := [(0, .ref (g.2.2 1)), (1, .int (zI a1))]) rfl ⟨rfl, rfl⟩ ?_
  intro p e s m args below meth c A Q hQ cx
  refine z_aload_n cx d_X5_mendLine_0 1 rfl rfl 0 rfl ?_
  refine z_dup cx d_X5_mendLine_1 2 rfl rfl ?_
  refine z_get cx d_X5_mendLine_2 5 rfl e_N rfl zX5 7 (by decide) q_92 rfl rfl ?_
  refine y_iconst cx d_X5_mendLine_5 6 rfl ?_
  refine z_iload_n cx d_X5_mendLine_6 7 rfl rfl 1 rfl ?_
  refine y_ishl cx d_X5_mendLine_7 8 rfl ?_
  refine y_iconst cx d_X5_mendLine_8 9 rfl ?_
  refine y_ixor cx d_X5_mendLine_9 10 rfl ?_
  refine y_iand cx d_X5_mendLine_10 11 rfl ?_
  refine y_put cx d_X5_mendLine_11 14 rfl e_N rfl zX5 tyX5_ok nmX5 7 (by decide) q_92 rfl rfl rfl rfl (Nat.le_of_ble_eq_true rfl) h (fun _ h9 => s_N_7 h9) (fun N_1 h => ?_)
  subst hQ
  obtain rfl := Option.some.inj h
  exact z_vret cx d_X5_mendLine_14 rfl
set_option maxHeartbeats 4000000 in
theorem tN_allPoints {l : Launch} {g : ZG} {X : ZB} {N : ZB} {T : ZB} {Rd : ZB} {Fr : ZB} {Ac : ZA} {Ch : ZB} {PS : ZB} {Ly : ZB} {Pa : ZQ} {OT : ZB} {Ea : ZB} {Ga : ZB} {Im0 : ZO} {Im1 : ZO} {La : ZB}  {r : Int} (h : fN_allPoints N = some r) : zMi l yX5_allPoints cX5_allPoints 1 (some .int) zr0 g [.ref (g.2.2 1)] (wX g X N T Rd Fr Ac Ch PS Ly Pa OT Ea Ga Im0 Im1 La) (wX g X N T Rd Fr Ac Ch PS Ly Pa OT Ea Ga Im0 Im1 La) (zI r) := by
  unfold fN_allPoints at h
  refine zMi_q (own := RX5) rfl (by decide +kernel) (Nat.le_of_ble_eq_true rfl) (lv := [(0, .ref (g.2.2 1))]) rfl ⟨rfl, rfl⟩ ?_
  intro p e s m args below meth c A Q hQ cx
  refine y_iconst cx d_X5_allPoints_0 1 rfl ?_
  refine z_aload_n cx d_X5_allPoints_1 2 rfl rfl 0 rfl ?_
  refine z_get cx d_X5_allPoints_2 5 rfl e_N rfl zX5 4 (by decide) q_78 rfl rfl ?_
  refine y_ishl cx d_X5_allPoints_5 6 rfl ?_
  refine y_iconst cx d_X5_allPoints_6 7 rfl ?_
  refine y_isub cx d_X5_allPoints_7 8 rfl ?_
  subst hQ
  obtain rfl := Option.some.inj h
  exact z_iret cx d_X5_allPoints_8 rfl rfl
