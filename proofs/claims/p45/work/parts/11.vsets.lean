-- needs: 10.anet
def zrPS_takeNone : Room := { frames := 1, cells := 0, slots := 0, locals := 20 }
set_option maxHeartbeats 4000000 in
theorem tPS_takeNone {l : Launch} {g : ZG} {X : ZB} {N : ZB} {T : ZB} {Rd : ZB} {Fr : ZB} {Ac : ZA} {Ch : ZB} {PS : ZB} {Ly : ZB} {Pa : ZQ} {OT : ZB} {Ea : ZB} {Ga : ZB} {Im0 : ZO} {Im1 : ZO} {La : ZB}  {r : ZB} (h : fPS_takeNone N PS = some r) : zMv l yX8_takeNone cX8_takeNone 2 none zrPS_takeNone g [.ref (g.2.2 70)] (wX g X N T Rd Fr Ac Ch PS Ly Pa OT Ea Ga Im0 Im1 La) (wX g X N T Rd Fr Ac Ch r Ly Pa OT Ea Ga Im0 Im1 La) := by
  unfold fPS_takeNone at h
  refine zMv_q (own := RX8) rfl (by decide +kernel) (Nat.le_of_ble_eq_true rfl) (lv := [(0, .ref (g.2.2 70))]) rfl ⟨rfl, rfl⟩ ?_
  intro p e s m args below meth c A Q hQ cx
  refine y_iconst cx d_X8_takeNone_0 1 rfl ?_
  refine y_istore_n cx d_X8_takeNone_1 2 rfl rfl (by decide) (lv' := [(1, .int (zI 0)), (0, .ref (g.2.2 70))]) rfl ?_
  refine z_sub [1, 0] rfl ?_
  refine lop2_f (P := fun (v1_1 : Int) (PS_2 : ZB) => V p l e zrPS_takeNone s m args below meth c A s.heap g 2 Q (wX g X N T Rd Fr Ac Ch PS_2 Ly Pa OT Ea Ga Im0 Im1 La) 0 0 [(0, .ref (g.2.2 70)), (1, .int (zI v1_1))] 2 []) (fun rec_3 hrec_3 v1_1 PS_2 h => ?_) _ _ _ h
  refine z_iload_n cx d_X8_takeNone_2 3 rfl rfl 1 rfl ?_
  refine z_aload_n cx d_X8_takeNone_3 4 rfl rfl 0 rfl ?_
  refine z_get cx d_X8_takeNone_4 7 rfl e_PS rfl zX8 0 (by decide) q_306 rfl rfl ?_
  refine y_callV_i (As := []) (rest := [.int (zI v1_1)]) (W := fun u_4 => wX g X N T Rd Fr Ac Ch PS_2 Ly Pa OT Ea Ga Im0 Im1 La) (rf := fun u_4 => zI u_4) (rm := zr0) cx (fun _ hq => tN_allPoints hq) d_X8_takeNone_7 10 rfl kk_X5_allPoints q_583 q_584 q_585 rfl e_N rfl ⟨rfl, rfl⟩ ⟨Nat.le_of_ble_eq_true rfl, Nat.le_of_ble_eq_true rfl⟩ rfl rfl (Nat.le_of_ble_eq_true rfl) ⟨Nat.zero_le _, Nat.zero_le _⟩ h (fun u_4 h => ?_)
  refine y_icmp_gt cx d_X8_takeNone_10 13 rfl 26 (by decide) rfl rfl h (fun h => ?_) (fun h => ?_)
  · subst hQ
    obtain rfl := Option.some.inj h
    exact z_vret cx d_X8_takeNone_26 rfl
  · refine z_aload_n cx d_X8_takeNone_13 14 rfl rfl 0 rfl ?_
    refine z_get cx d_X8_takeNone_14 17 rfl e_PS rfl zX8 2 (by decide) q_308 rfl rfl ?_
    refine z_iload_n cx d_X8_takeNone_17 18 rfl rfl 1 rfl ?_
    refine y_iconst cx d_X8_takeNone_18 19 rfl ?_
    refine y_iast cx d_X8_takeNone_19 20 rfl e_PS_taken (by decide) h (fun _ h9 => s_PS_taken h9) (fun PS_5 h => ?_)
    refine y_iinc cx 1 d_X8_takeNone_20 23 rfl rfl (by decide) (lv' := [(1, .int (zI (v1_1 + 1))), (0, .ref (g.2.2 70))]) rfl ?_
    refine z_goto cx d_X8_takeNone_23 2 (by decide) ?_
    refine z_sub [1, 0] rfl ?_
    exact hrec_3 _ _ h
def zrPS_isFull : Room := { frames := 1, cells := 0, slots := 0, locals := 20 }
set_option maxHeartbeats 4000000 in
theorem tPS_isFull {l : Launch} {g : ZG} {X : ZB} {N : ZB} {T : ZB} {Rd : ZB} {Fr : ZB} {Ac : ZA} {Ch : ZB} {PS : ZB} {Ly : ZB} {Pa : ZQ} {OT : ZB} {Ea : ZB} {Ga : ZB} {Im0 : ZO} {Im1 : ZO} {La : ZB} {a1 : Int} {a2 : Int} {r : Int} (h : fPS_isFull PS a1 a2 = some r) : zMi l yX8_isFull cX8_isFull 3 (some .boolean) zrPS_isFull g [.ref (g.2.2 70), .int (zI a1), .int (zI a2)] (wX g X N T Rd Fr Ac Ch PS Ly Pa OT Ea Ga Im0 Im1 La) (wX g X N T Rd Fr Ac Ch PS Ly Pa OT Ea Ga Im0 Im1 La) (zI r) := by
  unfold fPS_isFull at h
  refine zMi_q (own := RX8) rfl (by decide +kernel) (Nat.le_of_ble_eq_true rfl) (lv := [(0, .ref (g.2.2 70)), (1, .int (zI a1)), (2, .int (zI a2))]) rfl ⟨rfl, rfl⟩ ?_
  intro p e s m args below meth c A Q hQ cx
  refine z_aload_n cx d_X8_isFull_0 1 rfl rfl 0 rfl ?_
  refine z_get cx d_X8_isFull_1 4 rfl e_PS rfl zX8 2 (by decide) q_308 rfl rfl ?_
  refine z_iload_n cx d_X8_isFull_4 5 rfl rfl 1 rfl ?_
  refine y_ialdx cx d_X8_isFull_5 6 rfl e_PS_taken (by decide) h (fun x_1 h => ?_)
  refine z_iload_n cx d_X8_isFull_6 7 rfl rfl 2 rfl ?_
  refine z_iload_n cx d_X8_isFull_7 8 rfl rfl 1 rfl ?_
  refine y_callS_i (As := [.int (zI a1)]) (rest := [.int (zI a2), .int (zI x_1)]) (W := fun u_2 => wX g X N T Rd Fr Ac Ch PS Ly Pa OT Ea Ga Im0 Im1 La) (rf := fun u_2 => zI u_2) (rm := zr0) cx (fun _ hq => tJI_bitCount hq) d_X8_isFull_8 11 rfl kk_B_bitCount q_600 q_601 ⟨rfl, rfl⟩ ⟨Nat.le_of_ble_eq_true rfl, Nat.le_of_ble_eq_true rfl⟩ rfl rfl (Nat.le_of_ble_eq_true rfl) ⟨Nat.zero_le _, Nat.zero_le _⟩ h (fun u_2 h => ?_)
  refine y_iconst cx d_X8_isFull_11 12 rfl ?_
  refine y_isub cx d_X8_isFull_12 13 rfl ?_
  refine y_imul cx d_X8_isFull_13 14 rfl ?_
  refine kf1_f (P := fun (w0_3 : Int) => V p l e zrPS_isFull s m args below meth c A s.heap g 3 Q (wX g X N T Rd Fr Ac Ch PS Ly Pa OT Ea Ga Im0 Im1 La) 0 0 [] 22 [.int (zI w0_3)]) h (fun w0_3 h => ?_) (fun k_4 hk_4 h => ?_)
  · obtain ⟨hz, h⟩ := zo_i h
    subst hQ
    obtain rfl := Option.some.inj h
    exact z_zret cx d_X8_isFull_22 (zb01 hz) rfl rfl
  refine y_icmp_lt cx d_X8_isFull_14 17 rfl 21 (by decide) rfl rfl h (fun h => ?_) (fun h => ?_)
  · refine y_iconst cx d_X8_isFull_21 22 rfl ?_
    refine z_sub [] rfl ?_
    exact hk_4 _ h
  · refine y_iconst cx d_X8_isFull_17 18 rfl ?_
    refine z_goto cx d_X8_isFull_18 22 (by decide) ?_
    refine z_sub [] rfl ?_
    exact hk_4 _ h
def zrPS_take : Room := { frames := 2, cells := 0, slots := 0, locals := 42 }
set_option maxHeartbeats 4000000 in
theorem tPS_take {l : Launch} {g : ZG} {X : ZB} {N : ZB} {T : ZB} {Rd : ZB} {Fr : ZB} {Ac : ZA} {Ch : ZB} {PS : ZB} {Ly : ZB} {Pa : ZQ} {OT : ZB} {Ea : ZB} {Ga : ZB} {Im0 : ZO} {Im1 : ZO} {La : ZB} {a1 : Int} {a2 : Int} {r : Int × ZB} (h : fPS_take N PS a1 a2 = some r) : zMi l yX8_take cX8_take 6 (some .boolean) zrPS_take g [.ref (g.2.2 70), .int (zI a1), .int (zI a2)] (wX g X N T Rd Fr Ac Ch PS Ly Pa OT Ea Ga Im0 Im1 La) (wX g X N T Rd Fr Ac Ch r.2 Ly Pa OT Ea Ga Im0 Im1 La) (zI r.1) := by
  unfold fPS_take at h
  refine zMi_q (own := RX8) rfl (by decide +kernel) (Nat.le_of_ble_eq_true rfl) (lv := [(0, .ref (g.2.2 70)), (1, .int (zI a1)), (2, .int (zI a2))]) rfl ⟨rfl, rfl⟩ ?_
  intro p e s m args below meth c A Q hQ cx
  refine z_aload_n cx d_X8_take_0 1 rfl rfl 0 rfl ?_
  refine z_get cx d_X8_take_1 4 rfl e_PS rfl zX8 0 (by decide) q_306 rfl rfl ?_
  refine z_iload_n cx d_X8_take_4 5 rfl rfl 1 rfl ?_
  refine y_callV_i (As := [.int (zI a1)]) (rest := []) (W := fun u_1 => wX g X N T Rd Fr Ac Ch PS Ly Pa OT Ea Ga Im0 Im1 La) (rf := fun u_1 => zI u_1) (rm := zr0) cx (fun _ hq => tN_ends hq) d_X8_take_5 8 rfl kk_X5_ends q_592 q_593 q_594 rfl e_N rfl ⟨rfl, rfl⟩ ⟨Nat.le_of_ble_eq_true rfl, Nat.le_of_ble_eq_true rfl⟩ rfl rfl (Nat.le_of_ble_eq_true rfl) ⟨Nat.zero_le _, Nat.zero_le _⟩ h (fun u_1 h => ?_)
  refine y_istore_n cx d_X8_take_8 9 rfl rfl (by decide) (lv' := [(3, .int (zI u_1)), (0, .ref (g.2.2 70)), (1, .int (zI a1)), (2, .int (zI a2))]) rfl ?_
  refine y_iconst cx d_X8_take_9 10 rfl ?_
  refine z_aload_n cx d_X8_take_10 11 rfl rfl 1 rfl ?_
  refine z_get cx d_X8_take_11 14 rfl e_PS rfl zX8 0 (by decide) q_306 rfl rfl ?_
  refine z_get cx d_X8_take_14 17 rfl e_N rfl zX5 4 (by decide) q_81 rfl rfl ?_
  refine y_ishl cx d_X8_take_17 18 rfl ?_
  refine y_istore_b cx d_X8_take_18 20 rfl (by decide) (fun y => [(4, .int (zI y)), (3, .int (zI u_1)), (0, .ref (g.2.2 70)), (1, .int (zI a1)), (2, .int (zI a2))]) (fun y => rfl) h (fun v4_2 h => ?_)
  refine z_iload_n cx d_X8_take_20 21 rfl rfl 1 rfl ?_
  refine y_istore cx d_X8_take_21 23 rfl (by decide) (lv' := [(5, .int (zI u_1)), (4, .int (zI v4_2)), (3, .int (zI u_1)), (0, .ref (g.2.2 70)), (1, .int (zI a1)), (2, .int (zI a2))]) rfl ?_
  refine z_sub [3, 5, 2, 1, 0] rfl ?_
  refine lop1_f (P := fun (v5_3 : Int) => V p l e zrPS_take s m args below meth c A s.heap g 6 Q (wX g X N T Rd Fr Ac Ch PS Ly Pa OT Ea Ga Im0 Im1 La) 0 0 [(0, .ref (g.2.2 70)), (2, .int (zI a2)), (3, .int (zI u_1)), (4, .int (zI v4_2)), (5, .int (zI v5_3))] 23 []) (fun rec_4 hrec_4 v5_3 h => ?_) _ _ h
  refine z_iload cx d_X8_take_23 25 rfl 4 rfl ?_
  refine z_iload cx d_X8_take_25 27 rfl 3 rfl ?_
  refine y_icmp_ge cx d_X8_take_27 30 rfl 53 (by decide) rfl rfl h (fun h => ?_) (fun h => ?_)
  · refine z_iload_n cx d_X8_take_53 54 rfl rfl 2 rfl ?_
    refine y_istore cx d_X8_take_54 56 rfl (by decide) (lv' := [(5, .int (zI u_1)), (0, .ref (g.2.2 70)), (2, .int (zI a2)), (3, .int (zI u_1)), (4, .int (zI v4_2))]) rfl ?_
    refine z_sub [1, 3, 4, 0] rfl ?_
    refine lop2_f (P := fun (v5_5 : Int) (PS_6 : ZB) => V p l e zrPS_take s m args below meth c A s.heap g 6 Q (wX g X N T Rd Fr Ac Ch PS_6 Ly Pa OT Ea Ga Im0 Im1 La) 0 0 [(0, .ref (g.2.2 70)), (3, .int (zI u_1)), (4, .int (zI v4_2)), (5, .int (zI v5_5))] 56 []) (fun rec_7 hrec_7 v5_5 PS_6 h => ?_) _ _ _ h
    refine z_iload cx d_X8_take_56 58 rfl 3 rfl ?_
    refine z_iload cx d_X8_take_58 60 rfl 2 rfl ?_
    refine y_icmp_ge cx d_X8_take_60 63 rfl 85 (by decide) rfl rfl h (fun h => ?_) (fun h => ?_)
    · refine y_iconst cx d_X8_take_85 86 rfl ?_
      subst hQ
      obtain rfl := Option.some.inj h
      exact z_zret cx d_X8_take_86 (zb01 (by decide)) rfl rfl
    · refine z_aload_n cx d_X8_take_63 64 rfl rfl 0 rfl ?_
      refine z_get cx d_X8_take_64 67 rfl e_PS rfl zX8 2 (by decide) q_308 rfl rfl ?_
      refine z_iload cx d_X8_take_67 69 rfl 3 rfl ?_
      refine z_dup2 cx d_X8_take_69 70 rfl rfl rfl ?_
      refine y_ialdx cx d_X8_take_70 71 rfl e_PS_taken (by decide) h (fun x_8 h => ?_)
      refine y_iconst cx d_X8_take_71 72 rfl ?_
      refine y_iadd cx d_X8_take_72 73 rfl ?_
      refine y_iast cx d_X8_take_73 74 rfl e_PS_taken (by decide) h (fun _ h9 => s_PS_taken h9) (fun PS_9 h => ?_)
      refine z_iload cx d_X8_take_74 76 rfl 3 rfl ?_
      refine y_iconst cx d_X8_take_76 77 rfl ?_
      refine y_iadd cx d_X8_take_77 78 rfl ?_
      refine z_iload_n cx d_X8_take_78 79 rfl rfl 1 rfl ?_
      refine y_ior cx d_X8_take_79 80 rfl ?_
      refine y_istore_b cx d_X8_take_80 82 rfl (by decide) (fun y => [(5, .int (zI y)), (0, .ref (g.2.2 70)), (3, .int (zI u_1)), (4, .int (zI v4_2))]) (fun y => rfl) h (fun v5_10 h => ?_)
      refine z_goto cx d_X8_take_82 56 (by decide) ?_
      refine z_sub [1, 2, 3, 0] rfl ?_
      exact hrec_7 _ _ h
  · refine z_aload_n cx d_X8_take_30 31 rfl rfl 0 rfl ?_
    refine z_iload cx d_X8_take_31 33 rfl 4 rfl ?_
    refine z_iload_n cx d_X8_take_33 34 rfl rfl 1 rfl ?_
    refine y_callV_i (As := [.int (zI v5_3), .int (zI a2)]) (rest := []) (W := fun u_11 => wX g X N T Rd Fr Ac Ch PS Ly Pa OT Ea Ga Im0 Im1 La) (rf := fun u_11 => zI u_11) (rm := zrPS_isFull) cx (fun _ hq => tPS_isFull hq) d_X8_take_34 37 rfl kk_X8_isFull q_596 q_598 q_8 rfl e_PS rfl ⟨rfl, rfl⟩ ⟨Nat.le_of_ble_eq_true rfl, Nat.le_of_ble_eq_true rfl⟩ rfl rfl (Nat.le_of_ble_eq_true rfl) ⟨Nat.zero_le _, Nat.zero_le _⟩ h (fun u_11 h => ?_)
    refine y_if_eq cx d_X8_take_37 40 rfl 42 (by decide) rfl h (fun h => ?_) (fun h => ?_)
    · refine z_iload cx d_X8_take_42 44 rfl 4 rfl ?_
      refine y_iconst cx d_X8_take_44 45 rfl ?_
      refine y_iadd cx d_X8_take_45 46 rfl ?_
      refine z_iload_n cx d_X8_take_46 47 rfl rfl 2 rfl ?_
      refine y_ior cx d_X8_take_47 48 rfl ?_
      refine y_istore_b cx d_X8_take_48 50 rfl (by decide) (fun y => [(5, .int (zI y)), (0, .ref (g.2.2 70)), (2, .int (zI a2)), (3, .int (zI u_1)), (4, .int (zI v4_2))]) (fun y => rfl) h (fun v5_12 h => ?_)
      refine z_goto cx d_X8_take_50 23 (by decide) ?_
      refine z_sub [1, 2, 3, 4, 0] rfl ?_
      exact hrec_4 _ h
    · refine y_iconst cx d_X8_take_40 41 rfl ?_
      subst hQ
      obtain rfl := Option.some.inj h
      exact z_zret cx d_X8_take_41 (zb01 (by decide)) rfl rfl
def zrPS_takeByNumber : Room := { frames := 3, cells := 0, slots := 0, locals := 67 }
set_option maxHeartbeats 4000000 in
theorem tPS_takeByNumber {l : Launch} {g : ZG} {X : ZB} {N : ZB} {T : ZB} {Rd : ZB} {Fr : ZB} {Ac : ZA} {Ch : ZB} {PS : ZB} {Ly : ZB} {Pa : ZQ} {OT : ZB} {Ea : ZB} {Ga : ZB} {Im0 : ZO} {Im1 : ZO} {La : ZB} {a1 : Int} {r : Int × ZB} (h : fPS_takeByNumber N PS a1 = some r) : zMi l yX8_takeByNumber cX8_takeByNumber 4 (some .int) zrPS_takeByNumber g [.ref (g.2.2 70), .int (zI a1)] (wX g X N T Rd Fr Ac Ch PS Ly Pa OT Ea Ga Im0 Im1 La) (wX g X N T Rd Fr Ac Ch r.2 Ly Pa OT Ea Ga Im0 Im1 La) (zI r.1) := by
  unfold fPS_takeByNumber at h
  refine zMi_q (own := RX8) rfl (by decide +kernel) (Nat.le_of_ble_eq_true rfl) (lv := [(0, .ref (g.2.2 70)), (1, .int (zI a1))]) rfl ⟨rfl, rfl⟩ ?_
  intro p e s m args below meth c A Q hQ cx
  refine z_aload_n cx d_X8_takeByNumber_0 1 rfl rfl 0 rfl ?_
  refine y_callV_v (As := []) (rest := []) (W := fun u_1 => wX g X N T Rd Fr Ac Ch u_1 Ly Pa OT Ea Ga Im0 Im1 La) (rm := zrPS_takeNone) cx (fun _ hq => tPS_takeNone hq) d_X8_takeByNumber_1 4 rfl kk_X8_takeNone q_579 q_581 q_6 rfl e_PS rfl ⟨rfl, rfl⟩ ⟨Nat.le_of_ble_eq_true rfl, Nat.le_of_ble_eq_true rfl⟩ rfl rfl (Nat.le_of_ble_eq_true rfl) ⟨Nat.zero_le _, Nat.zero_le _⟩ h (fun u_1 h => ?_)
  refine y_iconst cx d_X8_takeByNumber_4 5 rfl ?_
  refine y_istore_n cx d_X8_takeByNumber_5 6 rfl rfl (by decide) (lv' := [(2, .int (zI 0)), (0, .ref (g.2.2 70)), (1, .int (zI a1))]) rfl ?_
  refine y_iconst cx d_X8_takeByNumber_6 7 rfl ?_
  refine y_istore_n cx d_X8_takeByNumber_7 8 rfl rfl (by decide) (lv' := [(3, .int (zI 0)), (2, .int (zI 0)), (0, .ref (g.2.2 70)), (1, .int (zI a1))]) rfl ?_
  refine z_sub [2, 3, 1, 0] rfl ?_
  refine lop3_f (P := fun (v2_2 : Int) (v3_3 : Int) (PS_4 : ZB) => V p l e zrPS_takeByNumber s m args below meth c A s.heap g 4 Q (wX g X N T Rd Fr Ac Ch PS_4 Ly Pa OT Ea Ga Im0 Im1 La) 0 0 [(0, .ref (g.2.2 70)), (1, .int (zI a1)), (2, .int (zI v2_2)), (3, .int (zI v3_3))] 8 []) (fun rec_5 hrec_5 v2_2 v3_3 PS_4 h => ?_) _ _ _ _ h
  refine z_iload_n cx d_X8_takeByNumber_8 9 rfl rfl 3 rfl ?_
  refine z_aload_n cx d_X8_takeByNumber_9 10 rfl rfl 0 rfl ?_
  refine z_get cx d_X8_takeByNumber_10 13 rfl e_PS rfl zX8 0 (by decide) q_306 rfl rfl ?_
  refine z_get cx d_X8_takeByNumber_13 16 rfl e_N rfl zX5 5 (by decide) q_86 rfl rfl ?_
  refine y_icmp_ge cx d_X8_takeByNumber_16 19 rfl 51 (by decide) rfl rfl h (fun h => ?_) (fun h => ?_)
  · refine z_iload_n cx d_X8_takeByNumber_51 52 rfl rfl 2 rfl ?_
    subst hQ
    obtain rfl := Option.some.inj h
    exact z_iret cx d_X8_takeByNumber_52 rfl rfl
  · refine z_aload_n cx d_X8_takeByNumber_19 20 rfl rfl 0 rfl ?_
    refine z_get cx d_X8_takeByNumber_20 23 rfl e_PS rfl zX8 0 (by decide) q_306 rfl rfl ?_
    refine z_iload_n cx d_X8_takeByNumber_23 24 rfl rfl 3 rfl ?_
    refine y_callV_i (As := [.int (zI v3_3)]) (rest := []) (W := fun u_6 => wX g X N T Rd Fr Ac Ch PS_4 Ly Pa OT Ea Ga Im0 Im1 La) (rf := fun u_6 => zI u_6) (rm := zr0) cx (fun _ hq => tN_isSound hq) d_X8_takeByNumber_24 27 rfl kk_X5_isSound q_587 q_496 q_497 rfl e_N rfl ⟨rfl, rfl⟩ ⟨Nat.le_of_ble_eq_true rfl, Nat.le_of_ble_eq_true rfl⟩ rfl rfl (Nat.le_of_ble_eq_true rfl) ⟨Nat.zero_le _, Nat.zero_le _⟩ h (fun u_6 h => ?_)
    refine kf2_f (P := fun (v2_7 : Int) (PS_8 : ZB) => V p l e zrPS_takeByNumber s m args below meth c A s.heap g 4 Q (wX g X N T Rd Fr Ac Ch PS_8 Ly Pa OT Ea Ga Im0 Im1 La) 0 0 [(0, .ref (g.2.2 70)), (1, .int (zI a1)), (2, .int (zI v2_7)), (3, .int (zI v3_3))] 45 []) h (fun v2_7 PS_8 h => ?_) (fun k_9 hk_9 h => ?_)
    · refine y_iinc cx 3 d_X8_takeByNumber_45 48 rfl rfl (by decide) (lv' := [(3, .int (zI (v3_3 + 1))), (0, .ref (g.2.2 70)), (1, .int (zI a1)), (2, .int (zI v2_7))]) rfl ?_
      refine z_goto cx d_X8_takeByNumber_48 8 (by decide) ?_
      refine z_sub [1, 2, 3, 0] rfl ?_
      exact hrec_5 _ _ _ h
    refine y_if_eq cx d_X8_takeByNumber_27 30 rfl 45 (by decide) rfl h (fun h => ?_) (fun h => ?_)
    · exact hk_9 _ _ h
    · refine z_aload_n cx d_X8_takeByNumber_30 31 rfl rfl 0 rfl ?_
      refine z_iload_n cx d_X8_takeByNumber_31 32 rfl rfl 3 rfl ?_
      refine z_iload_n cx d_X8_takeByNumber_32 33 rfl rfl 1 rfl ?_
      refine y_callV_i (As := [.int (zI v3_3), .int (zI a1)]) (rest := []) (W := fun u_10 => wX g X N T Rd Fr Ac Ch u_10.2 Ly Pa OT Ea Ga Im0 Im1 La) (rf := fun u_10 => zI u_10.1) (rm := zrPS_take) cx (fun _ hq => tPS_take hq) d_X8_takeByNumber_33 36 rfl kk_X8_take q_588 q_590 q_7 rfl e_PS rfl ⟨rfl, rfl⟩ ⟨Nat.le_of_ble_eq_true rfl, Nat.le_of_ble_eq_true rfl⟩ rfl rfl (Nat.le_of_ble_eq_true rfl) ⟨Nat.zero_le _, Nat.zero_le _⟩ h (fun u_10 h => ?_)
      refine y_if_eq cx d_X8_takeByNumber_36 39 rfl 45 (by decide) rfl h (fun h => ?_) (fun h => ?_)
      · exact hk_9 _ _ h
      · refine z_iload_n cx d_X8_takeByNumber_39 40 rfl rfl 2 rfl ?_
        refine y_iconst cx d_X8_takeByNumber_40 41 rfl ?_
        refine z_iload_n cx d_X8_takeByNumber_41 42 rfl rfl 3 rfl ?_
        refine y_ishl cx d_X8_takeByNumber_42 43 rfl ?_
        refine y_ior cx d_X8_takeByNumber_43 44 rfl ?_
        refine y_istore_n_b cx d_X8_takeByNumber_44 45 rfl rfl (by decide) (fun y => [(2, .int (zI y)), (0, .ref (g.2.2 70)), (1, .int (zI a1)), (3, .int (zI v3_3))]) (fun y => rfl) h (fun v2_11 h => ?_)
        refine z_sub [1, 2, 0, 3] rfl ?_
        exact hk_9 _ _ h
def zrPS_countInner_itself : Room := { frames := 1, cells := 0, slots := 0, locals := 21 }
set_option maxHeartbeats 4000000 in
theorem tPS_countInner_itself {l : Launch} {g : ZG} {X : ZB} {N : ZB} {T : ZB} {Rd : ZB} {Fr : ZB} {Ac : ZA} {Ch : ZB} {PS : ZB} {Ly : ZB} {Pa : ZQ} {OT : ZB} {Ea : ZB} {Ga : ZB} {Im0 : ZO} {Im1 : ZO} {La : ZB}  {r : ZB} (h : fPS_countInner_itself N PS = some r) : zMv l yX8_countInner_ cX8_countInner_ 6 none zrPS_countInner_itself g [.ref (g.2.2 70), .ref (g.2.2 73)] (wX g X N T Rd Fr Ac Ch PS Ly Pa OT Ea Ga Im0 Im1 La) (wX g X N T Rd Fr Ac Ch r Ly Pa OT Ea Ga Im0 Im1 La) := by
  unfold fPS_countInner_itself at h
  refine zMv_q (own := RX8) rfl (by decide +kernel) (Nat.le_of_ble_eq_true rfl) (lv := [(0, .ref (g.2.2 70)), (1, .ref (g.2.2 73))]) rfl ⟨rfl, rfl⟩ ?_
  intro p e s m args below meth c A Q hQ cx
  refine y_iconst cx d_X8_countInner__0 1 rfl ?_
  refine z_aload_n cx d_X8_countInner__1 2 rfl rfl 0 rfl ?_
  refine z_get cx d_X8_countInner__2 5 rfl e_PS rfl zX8 0 (by decide) q_306 rfl rfl ?_
  refine z_get cx d_X8_countInner__5 8 rfl e_N rfl zX5 4 (by decide) q_81 rfl rfl ?_
  refine y_ishl cx d_X8_countInner__8 9 rfl ?_
  refine y_istore_n_b cx d_X8_countInner__9 10 rfl rfl (by decide) (fun y => [(2, .int (zI y)), (0, .ref (g.2.2 70)), (1, .ref (g.2.2 73))]) (fun y => rfl) h (fun v2_1 h => ?_)
  refine y_iconst cx d_X8_countInner__10 11 rfl ?_
  refine y_istore_n cx d_X8_countInner__11 12 rfl rfl (by decide) (lv' := [(3, .int (zI 0)), (2, .int (zI v2_1)), (0, .ref (g.2.2 70)), (1, .ref (g.2.2 73))]) rfl ?_
  refine z_sub [2, 3, 1, 0] rfl ?_
  refine lop2_f (P := fun (v3_2 : Int) (PS_3 : ZB) => V p l e zrPS_countInner_itself s m args below meth c A s.heap g 6 Q (wX g X N T Rd Fr Ac Ch PS_3 Ly Pa OT Ea Ga Im0 Im1 La) 0 0 [(0, .ref (g.2.2 70)), (1, .ref (g.2.2 73)), (2, .int (zI v2_1)), (3, .int (zI v3_2))] 12 []) (fun rec_4 hrec_4 v3_2 PS_3 h => ?_) _ _ _ h
  refine z_iload_n cx d_X8_countInner__12 13 rfl rfl 3 rfl ?_
  refine z_iload_n cx d_X8_countInner__13 14 rfl rfl 2 rfl ?_
  refine y_icmp_ge cx d_X8_countInner__14 17 rfl 30 (by decide) rfl rfl h (fun h => ?_) (fun h => ?_)
  · refine y_iconst cx d_X8_countInner__30 31 rfl ?_
    refine y_istore_n cx d_X8_countInner__31 32 rfl rfl (by decide) (lv' := [(3, .int (zI 0)), (0, .ref (g.2.2 70)), (1, .ref (g.2.2 73)), (2, .int (zI v2_1))]) rfl ?_
    refine z_sub [1, 2, 3, 0] rfl ?_
    refine lop2_f (P := fun (v3_5 : Int) (PS_6 : ZB) => V p l e zrPS_countInner_itself s m args below meth c A s.heap g 6 Q (wX g X N T Rd Fr Ac Ch PS_6 Ly Pa OT Ea Ga Im0 Im1 La) 0 0 [(0, .ref (g.2.2 70)), (1, .ref (g.2.2 73)), (2, .int (zI v2_1)), (3, .int (zI v3_5))] 32 []) (fun rec_7 hrec_7 v3_5 PS_6 h => ?_) _ _ _ h
    refine z_iload_n cx d_X8_countInner__32 33 rfl rfl 3 rfl ?_
    refine z_aload_n cx d_X8_countInner__33 34 rfl rfl 0 rfl ?_
    refine z_get cx d_X8_countInner__34 37 rfl e_PS rfl zX8 0 (by decide) q_306 rfl rfl ?_
    refine z_get cx d_X8_countInner__37 40 rfl e_N rfl zX5 5 (by decide) q_86 rfl rfl ?_
    refine y_icmp_ge cx d_X8_countInner__40 43 rfl 111 (by decide) rfl rfl h (fun h => ?_) (fun h => ?_)
    · refine y_iconst cx d_X8_countInner__111 112 rfl ?_
      refine y_istore_n cx d_X8_countInner__112 113 rfl rfl (by decide) (lv' := [(3, .int (zI 0)), (0, .ref (g.2.2 70)), (1, .ref (g.2.2 73)), (2, .int (zI v2_1))]) rfl ?_
      refine z_sub [1, 3, 0] rfl ?_
      refine lop2_f (P := fun (v3_8 : Int) (PS_9 : ZB) => V p l e zrPS_countInner_itself s m args below meth c A s.heap g 6 Q (wX g X N T Rd Fr Ac Ch PS_9 Ly Pa OT Ea Ga Im0 Im1 La) 0 0 [(0, .ref (g.2.2 70)), (2, .int (zI v2_1)), (3, .int (zI v3_8))] 113 []) (fun rec_10 hrec_10 v3_8 PS_9 h => ?_) _ _ _ h
      refine z_iload_n cx d_X8_countInner__113 114 rfl rfl 2 rfl ?_
      refine z_aload_n cx d_X8_countInner__114 115 rfl rfl 0 rfl ?_
      refine z_get cx d_X8_countInner__115 118 rfl e_PS rfl zX8 0 (by decide) q_306 rfl rfl ?_
      refine z_get cx d_X8_countInner__118 121 rfl e_N rfl zX5 4 (by decide) q_81 rfl rfl ?_
      refine y_icmp_ge cx d_X8_countInner__121 124 rfl 175 (by decide) rfl rfl h (fun h => ?_) (fun h => ?_)
      · subst hQ
        obtain rfl := Option.some.inj h
        exact z_vret cx d_X8_countInner__175 rfl
      · refine y_iconst cx d_X8_countInner__124 125 rfl ?_
        refine y_istore cx d_X8_countInner__125 127 rfl (by decide) (lv' := [(4, .int (zI 0)), (0, .ref (g.2.2 70)), (2, .int (zI v2_1)), (3, .int (zI v3_8))]) rfl ?_
        refine z_sub [1, 2, 3, 0] rfl ?_
        refine lop2_f (P := fun (v4_11 : Int) (PS_12 : ZB) => V p l e zrPS_countInner_itself s m args below meth c A s.heap g 6 Q (wX g X N T Rd Fr Ac Ch PS_12 Ly Pa OT Ea Ga Im0 Im1 La) 0 0 [(0, .ref (g.2.2 70)), (2, .int (zI v2_1)), (3, .int (zI v3_8)), (4, .int (zI v4_11))] 127 []) (fun rec_13 hrec_13 v4_11 PS_12 h => ?_) _ _ _ h
        refine z_iload cx d_X8_countInner__127 129 rfl 3 rfl ?_
        refine z_iload_n cx d_X8_countInner__129 130 rfl rfl 1 rfl ?_
        refine y_icmp_ge cx d_X8_countInner__130 133 rfl 169 (by decide) rfl rfl h (fun h => ?_) (fun h => ?_)
        · refine y_iinc cx 2 d_X8_countInner__169 172 rfl rfl (by decide) (lv' := [(3, .int (zI (v3_8 + 1))), (0, .ref (g.2.2 70)), (2, .int (zI v2_1)), (4, .int (zI v4_11))]) rfl ?_
          refine z_goto cx d_X8_countInner__172 113 (by decide) ?_
          refine z_sub [1, 2, 0] rfl ?_
          exact hrec_10 _ _ h
        · refine z_iload cx d_X8_countInner__133 135 rfl 3 rfl ?_
          refine z_iload_n cx d_X8_countInner__135 136 rfl rfl 2 rfl ?_
          refine y_ishr cx d_X8_countInner__136 137 rfl ?_
          refine y_iconst cx d_X8_countInner__137 138 rfl ?_
          refine y_iand cx d_X8_countInner__138 139 rfl ?_
          refine kf1_f (P := fun (PS_14 : ZB) => V p l e zrPS_countInner_itself s m args below meth c A s.heap g 6 Q (wX g X N T Rd Fr Ac Ch PS_14 Ly Pa OT Ea Ga Im0 Im1 La) 0 0 [(0, .ref (g.2.2 70)), (2, .int (zI v2_1)), (3, .int (zI v3_8)), (4, .int (zI v4_11))] 163 []) h (fun PS_14 h => ?_) (fun k_15 hk_15 h => ?_)
          · refine y_iinc cx 3 d_X8_countInner__163 166 rfl rfl (by decide) (lv' := [(4, .int (zI (v4_11 + 1))), (0, .ref (g.2.2 70)), (2, .int (zI v2_1)), (3, .int (zI v3_8))]) rfl ?_
            refine z_goto cx d_X8_countInner__166 127 (by decide) ?_
            refine z_sub [1, 2, 3, 0] rfl ?_
            exact hrec_13 _ _ h
          refine y_if_eq cx d_X8_countInner__139 142 rfl 163 (by decide) (nm_zand _ _) h (fun h => ?_) (fun h => ?_)
          · exact hk_15 _ h
          · refine z_aload_n cx d_X8_countInner__142 143 rfl rfl 0 rfl ?_
            refine z_get cx d_X8_countInner__143 146 rfl e_PS rfl zX8 1 (by decide) q_307 rfl rfl ?_
            refine z_iload cx d_X8_countInner__146 148 rfl 3 rfl ?_
            refine z_dup2 cx d_X8_countInner__148 149 rfl rfl rfl ?_
            refine y_ialdx cx d_X8_countInner__149 150 rfl e_PS_inner (by decide) h (fun x_16 h => ?_)
            refine z_aload_n cx d_X8_countInner__150 151 rfl rfl 0 rfl ?_
            refine z_get cx d_X8_countInner__151 154 rfl e_PS rfl zX8 1 (by decide) q_307 rfl rfl ?_
            refine z_iload cx d_X8_countInner__154 156 rfl 3 rfl ?_
            refine y_iconst cx d_X8_countInner__156 157 rfl ?_
            refine z_iload_n cx d_X8_countInner__157 158 rfl rfl 2 rfl ?_
            refine y_ishl cx d_X8_countInner__158 159 rfl ?_
            refine y_ixor cx d_X8_countInner__159 160 rfl ?_
            refine y_ialdx cx d_X8_countInner__160 161 rfl e_PS_inner (by decide) h (fun x_17 h => ?_)
            refine y_iadd cx d_X8_countInner__161 162 rfl ?_
            refine y_iast cx d_X8_countInner__162 163 rfl e_PS_inner (by decide) h (fun _ h9 => s_PS_inner h9) (fun PS_18 h => ?_)
            exact hk_15 _ h
    · refine z_aload_n cx d_X8_countInner__43 44 rfl rfl 1 rfl ?_
      refine z_aload_n cx d_X8_countInner__44 45 rfl rfl 0 rfl ?_
      refine z_get cx d_X8_countInner__45 48 rfl e_PS rfl zX8 0 (by decide) q_306 rfl rfl ?_
      refine z_get cx d_X8_countInner__48 51 rfl e_N rfl zX5 0 (by decide) q_66 rfl rfl ?_
      refine z_iload_n cx d_X8_countInner__51 52 rfl rfl 3 rfl ?_
      refine y_ialdx cx d_X8_countInner__52 53 rfl e_N_first (by decide) h (fun x_19 h => ?_)
      refine y_ialdx cx d_X8_countInner__53 54 rfl e_PS_itself (by decide) h (fun x_20 h => ?_)
      refine y_istore cx d_X8_countInner__54 56 rfl (by decide) (lv' := [(4, .int (zI x_20)), (0, .ref (g.2.2 70)), (1, .ref (g.2.2 73)), (2, .int (zI v2_1)), (3, .int (zI v3_5))]) rfl ?_
      refine z_aload_n cx d_X8_countInner__56 57 rfl rfl 2 rfl ?_
      refine z_aload_n cx d_X8_countInner__57 58 rfl rfl 1 rfl ?_
      refine z_get cx d_X8_countInner__58 61 rfl e_PS rfl zX8 0 (by decide) q_306 rfl rfl ?_
      refine z_get cx d_X8_countInner__61 64 rfl e_N rfl zX5 1 (by decide) q_70 rfl rfl ?_
      refine z_iload_n cx d_X8_countInner__64 65 rfl rfl 4 rfl ?_
      refine y_ialdx cx d_X8_countInner__65 66 rfl e_N_second (by decide) h (fun x_21 h => ?_)
      refine y_ialdx cx d_X8_countInner__66 67 rfl e_PS_itself (by decide) h (fun x_22 h => ?_)
      refine y_istore cx d_X8_countInner__67 69 rfl (by decide) (lv' := [(5, .int (zI x_22)), (4, .int (zI x_20)), (0, .ref (g.2.2 70)), (1, .ref (g.2.2 73)), (2, .int (zI v2_1)), (3, .int (zI v3_5))]) rfl ?_
      refine z_aload_n cx d_X8_countInner__69 70 rfl rfl 2 rfl ?_
      refine z_get cx d_X8_countInner__70 73 rfl e_PS rfl zX8 0 (by decide) q_306 rfl rfl ?_
      refine z_iload_n cx d_X8_countInner__73 74 rfl rfl 5 rfl ?_
      refine y_callV_i (As := [.int (zI v3_5)]) (rest := []) (W := fun u_23 => wX g X N T Rd Fr Ac Ch PS_6 Ly Pa OT Ea Ga Im0 Im1 La) (rf := fun u_23 => zI u_23) (rm := zr0) cx (fun _ hq => tN_isSound hq) d_X8_countInner__74 77 rfl kk_X5_isSound q_587 q_496 q_497 rfl e_N rfl ⟨rfl, rfl⟩ ⟨Nat.le_of_ble_eq_true rfl, Nat.le_of_ble_eq_true rfl⟩ rfl rfl (Nat.le_of_ble_eq_true rfl) ⟨Nat.zero_le _, Nat.zero_le _⟩ h (fun u_23 h => ?_)
      refine kf1_f (P := fun (PS_24 : ZB) => V p l e zrPS_countInner_itself s m args below meth c A s.heap g 6 Q (wX g X N T Rd Fr Ac Ch PS_24 Ly Pa OT Ea Ga Im0 Im1 La) 0 0 [(0, .ref (g.2.2 70)), (1, .ref (g.2.2 73)), (2, .int (zI v2_1)), (3, .int (zI v3_5))] 105 []) h (fun PS_24 h => ?_) (fun k_25 hk_25 h => ?_)
      · refine y_iinc cx 3 d_X8_countInner__105 108 rfl rfl (by decide) (lv' := [(3, .int (zI (v3_5 + 1))), (0, .ref (g.2.2 70)), (1, .ref (g.2.2 73)), (2, .int (zI v2_1))]) rfl ?_
        refine z_goto cx d_X8_countInner__108 32 (by decide) ?_
        refine z_sub [1, 2, 3, 0] rfl ?_
        exact hrec_7 _ _ h
      refine y_if_eq cx d_X8_countInner__77 80 rfl 105 (by decide) rfl h (fun h => ?_) (fun h => ?_)
      · refine z_sub [2, 3, 4, 5] rfl ?_
        exact hk_25 _ h
      · refine z_iload cx d_X8_countInner__80 82 rfl 1 rfl ?_
        refine z_iload cx d_X8_countInner__82 84 rfl 0 rfl ?_
        refine y_icmp_eq cx d_X8_countInner__84 87 rfl 105 (by decide) rfl rfl h (fun h => ?_) (fun h => ?_)
        · refine z_sub [2, 3, 4, 5] rfl ?_
          exact hk_25 _ h
        · refine z_aload_n cx d_X8_countInner__87 88 rfl rfl 2 rfl ?_
          refine z_get cx d_X8_countInner__88 91 rfl e_PS rfl zX8 1 (by decide) q_307 rfl rfl ?_
          refine y_iconst cx d_X8_countInner__91 92 rfl ?_
          refine z_iload cx d_X8_countInner__92 94 rfl 1 rfl ?_
          refine y_ishl cx d_X8_countInner__94 95 rfl ?_
          refine y_iconst cx d_X8_countInner__95 96 rfl ?_
          refine z_iload cx d_X8_countInner__96 98 rfl 0 rfl ?_
          refine y_ishl cx d_X8_countInner__98 99 rfl ?_
          refine y_ior cx d_X8_countInner__99 100 rfl ?_
          refine z_dup2 cx d_X8_countInner__100 101 rfl rfl rfl ?_
          refine y_ialdx cx d_X8_countInner__101 102 rfl e_PS_inner (by decide) h (fun x_26 h => ?_)
          refine y_iconst cx d_X8_countInner__102 103 rfl ?_
          refine y_iadd cx d_X8_countInner__103 104 rfl ?_
          refine y_iast cx d_X8_countInner__104 105 rfl e_PS_inner (by decide) h (fun _ h9 => s_PS_inner h9) (fun PS_27 h => ?_)
          refine z_sub [2, 3, 4, 5] rfl ?_
          exact hk_25 _ h
  · refine z_aload_n cx d_X8_countInner__17 18 rfl rfl 0 rfl ?_
    refine z_get cx d_X8_countInner__18 21 rfl e_PS rfl zX8 1 (by decide) q_307 rfl rfl ?_
    refine z_iload_n cx d_X8_countInner__21 22 rfl rfl 3 rfl ?_
    refine y_iconst cx d_X8_countInner__22 23 rfl ?_
    refine y_iast cx d_X8_countInner__23 24 rfl e_PS_inner (by decide) h (fun _ h9 => s_PS_inner h9) (fun PS_28 h => ?_)
    refine y_iinc cx 3 d_X8_countInner__24 27 rfl rfl (by decide) (lv' := [(3, .int (zI (v3_2 + 1))), (0, .ref (g.2.2 70)), (1, .ref (g.2.2 73)), (2, .int (zI v2_1))]) rfl ?_
    refine z_goto cx d_X8_countInner__27 12 (by decide) ?_
    refine z_sub [1, 2, 3, 0] rfl ?_
    exact hrec_4 _ _ h
def zrPS_countInner0 : Room := { frames := 2, cells := 0, slots := 0, locals := 46 }
set_option maxHeartbeats 4000000 in
theorem tPS_countInner0 {l : Launch} {g : ZG} {X : ZB} {N : ZB} {T : ZB} {Rd : ZB} {Fr : ZB} {Ac : ZA} {Ch : ZB} {PS : ZB} {Ly : ZB} {Pa : ZQ} {OT : ZB} {Ea : ZB} {Ga : ZB} {Im0 : ZO} {Im1 : ZO} {La : ZB}  {r : ZB} (h : fPS_countInner0 N PS = some r) : zMv l yX8_countInner cX8_countInner 1 none zrPS_countInner0 g [.ref (g.2.2 70)] (wX g X N T Rd Fr Ac Ch PS Ly Pa OT Ea Ga Im0 Im1 La) (wX g X N T Rd Fr Ac Ch r Ly Pa OT Ea Ga Im0 Im1 La) := by
  unfold fPS_countInner0 at h
  refine zMv_q (own := RX8) rfl (by decide +kernel) (Nat.le_of_ble_eq_true rfl) (lv := [(0, .ref (g.2.2 70))]) rfl ⟨rfl, rfl⟩ ?_
  intro p e s m args below meth c A Q hQ cx
  refine z_aload_n cx d_X8_countInner_0 1 rfl rfl 0 rfl ?_
  refine z_aload_n cx d_X8_countInner_1 2 rfl rfl 0 rfl ?_
  refine z_get cx d_X8_countInner_2 5 rfl e_PS rfl zX8 3 (by decide) q_309 rfl rfl ?_
  refine y_callV_v (As := [.ref (g.2.2 73)]) (rest := []) (W := fun u_1 => wX g X N T Rd Fr Ac Ch u_1 Ly Pa OT Ea Ga Im0 Im1 La) (rm := zrPS_countInner_itself) cx (fun _ hq => tPS_countInner_itself hq) d_X8_countInner_5 8 rfl kk_X8_countInner_ q_940 q_942 q_23 rfl e_PS rfl ⟨rfl, rfl⟩ ⟨Nat.le_of_ble_eq_true rfl, Nat.le_of_ble_eq_true rfl⟩ rfl rfl (Nat.le_of_ble_eq_true rfl) ⟨Nat.zero_le _, Nat.zero_le _⟩ h (fun u_1 h => ?_)
  subst hQ
  obtain rfl := Option.some.inj h
  exact z_vret cx d_X8_countInner_8 rfl
def zrPS_greatestShare : Room := { frames := 3, cells := 0, slots := 0, locals := 66 }
set_option maxHeartbeats 4000000 in
theorem tPS_greatestShare {l : Launch} {g : ZG} {X : ZB} {N : ZB} {T : ZB} {Rd : ZB} {Fr : ZB} {Ac : ZA} {Ch : ZB} {PS : ZB} {Ly : ZB} {Pa : ZQ} {OT : ZB} {Ea : ZB} {Ga : ZB} {Im0 : ZO} {Im1 : ZO} {La : ZB} {a1 : Int} {r : Int × ZB} (h : fPS_greatestShare N PS a1 = some r) : zMi l yX8_greatestShare cX8_greatestShare 5 (some .int) zrPS_greatestShare g [.ref (g.2.2 70), .int (zI a1)] (wX g X N T Rd Fr Ac Ch PS Ly Pa OT Ea Ga Im0 Im1 La) (wX g X N T Rd Fr Ac Ch r.2 Ly Pa OT Ea Ga Im0 Im1 La) (zI r.1) := by
  unfold fPS_greatestShare at h
  refine zMi_q (own := RX8) rfl (by decide +kernel) (Nat.le_of_ble_eq_true rfl) (lv := [(0, .ref (g.2.2 70)), (1, .int (zI a1))]) rfl ⟨rfl, rfl⟩ ?_
  intro p e s m args below meth c A Q hQ cx
  refine z_aload_n cx d_X8_greatestShare_0 1 rfl rfl 0 rfl ?_
  refine y_callV_v (As := []) (rest := []) (W := fun u_1 => wX g X N T Rd Fr Ac Ch u_1 Ly Pa OT Ea Ga Im0 Im1 La) (rm := zrPS_countInner0) cx (fun _ hq => tPS_countInner0 hq) d_X8_greatestShare_1 4 rfl kk_X8_countInner q_936 q_937 q_938 rfl e_PS rfl ⟨rfl, rfl⟩ ⟨Nat.le_of_ble_eq_true rfl, Nat.le_of_ble_eq_true rfl⟩ rfl rfl (Nat.le_of_ble_eq_true rfl) ⟨Nat.zero_le _, Nat.zero_le _⟩ h (fun u_1 h => ?_)
  refine y_iconst cx d_X8_greatestShare_4 5 rfl ?_
  refine y_istore_n cx d_X8_greatestShare_5 6 rfl rfl (by decide) (lv' := [(2, .int (zI 0)), (0, .ref (g.2.2 70)), (1, .int (zI a1))]) rfl ?_
  refine y_iconst cx d_X8_greatestShare_6 7 rfl ?_
  refine y_istore_n cx d_X8_greatestShare_7 8 rfl rfl (by decide) (lv' := [(3, .int (zI 3)), (2, .int (zI 0)), (0, .ref (g.2.2 70)), (1, .int (zI a1))]) rfl ?_
  refine z_sub [2, 3, 1, 0] rfl ?_
  refine lop2_f (P := fun (v2_2 : Int) (v3_3 : Int) => V p l e zrPS_greatestShare s m args below meth c A s.heap g 5 Q (wX g X N T Rd Fr Ac Ch u_1 Ly Pa OT Ea Ga Im0 Im1 La) 0 0 [(0, .ref (g.2.2 70)), (1, .int (zI a1)), (2, .int (zI v2_2)), (3, .int (zI v3_3))] 8 []) (fun rec_4 hrec_4 v2_2 v3_3 h => ?_) _ _ _ h
  refine z_iload_n cx d_X8_greatestShare_8 9 rfl rfl 3 rfl ?_
  refine z_aload_n cx d_X8_greatestShare_9 10 rfl rfl 0 rfl ?_
  refine z_get cx d_X8_greatestShare_10 13 rfl e_PS rfl zX8 0 (by decide) q_306 rfl rfl ?_
  refine y_callV_i (As := []) (rest := [.int (zI v3_3)]) (W := fun u_5 => wX g X N T Rd Fr Ac Ch u_1 Ly Pa OT Ea Ga Im0 Im1 La) (rf := fun u_5 => zI u_5) (rm := zr0) cx (fun _ hq => tN_allPoints hq) d_X8_greatestShare_13 16 rfl kk_X5_allPoints q_583 q_584 q_585 rfl e_N rfl ⟨rfl, rfl⟩ ⟨Nat.le_of_ble_eq_true rfl, Nat.le_of_ble_eq_true rfl⟩ rfl rfl (Nat.le_of_ble_eq_true rfl) ⟨Nat.zero_le _, Nat.zero_le _⟩ h (fun u_5 h => ?_)
  refine y_icmp_gt cx d_X8_greatestShare_16 19 rfl 57 (by decide) rfl rfl h (fun h => ?_) (fun h => ?_)
  · refine z_iload_n cx d_X8_greatestShare_57 58 rfl rfl 2 rfl ?_
    subst hQ
    obtain rfl := Option.some.inj h
    exact z_iret cx d_X8_greatestShare_58 rfl rfl
  · refine z_iload_n cx d_X8_greatestShare_19 20 rfl rfl 3 rfl ?_
    refine y_callS_i (As := [.int (zI v3_3)]) (rest := []) (W := fun u_6 => wX g X N T Rd Fr Ac Ch u_1 Ly Pa OT Ea Ga Im0 Im1 La) (rf := fun u_6 => zI u_6) (rm := zr0) cx (fun _ hq => tJI_bitCount hq) d_X8_greatestShare_20 23 rfl kk_B_bitCount q_600 q_601 ⟨rfl, rfl⟩ ⟨Nat.le_of_ble_eq_true rfl, Nat.le_of_ble_eq_true rfl⟩ rfl rfl (Nat.le_of_ble_eq_true rfl) ⟨Nat.zero_le _, Nat.zero_le _⟩ h (fun u_6 h => ?_)
    refine z_iload_n cx d_X8_greatestShare_23 24 rfl rfl 1 rfl ?_
    refine y_isub cx d_X8_greatestShare_24 25 rfl ?_
    refine y_istore_b cx d_X8_greatestShare_25 27 rfl (by decide) (fun y => [(4, .int (zI y)), (0, .ref (g.2.2 70)), (1, .int (zI a1)), (2, .int (zI v2_2)), (3, .int (zI v3_3))]) (fun y => rfl) h (fun v4_7 h => ?_)
    refine z_iload cx d_X8_greatestShare_27 29 rfl 0 rfl ?_
    refine kf1_f (P := fun (v2_8 : Int) => V p l e zrPS_greatestShare s m args below meth c A s.heap g 5 Q (wX g X N T Rd Fr Ac Ch u_1 Ly Pa OT Ea Ga Im0 Im1 La) 0 0 [(0, .ref (g.2.2 70)), (1, .int (zI a1)), (2, .int (zI v2_8)), (3, .int (zI v3_3))] 51 []) h (fun v2_8 h => ?_) (fun k_9 hk_9 h => ?_)
    · refine y_iinc cx 3 d_X8_greatestShare_51 54 rfl rfl (by decide) (lv' := [(3, .int (zI (v3_3 + 1))), (0, .ref (g.2.2 70)), (1, .int (zI a1)), (2, .int (zI v2_8))]) rfl ?_
      refine z_goto cx d_X8_greatestShare_54 8 (by decide) ?_
      refine z_sub [1, 2, 3, 0] rfl ?_
      exact hrec_4 _ _ h
    refine y_if_le cx d_X8_greatestShare_29 32 rfl 51 (by decide) rfl h (fun h => ?_) (fun h => ?_)
    · refine z_sub [1, 2, 3, 4] rfl ?_
      exact hk_9 _ h
    · refine z_iload_n cx d_X8_greatestShare_32 33 rfl rfl 3 rfl ?_
      refine z_aload_n cx d_X8_greatestShare_33 34 rfl rfl 1 rfl ?_
      refine z_get cx d_X8_greatestShare_34 37 rfl e_PS rfl zX8 1 (by decide) q_307 rfl rfl ?_
      refine z_iload_n cx d_X8_greatestShare_37 38 rfl rfl 4 rfl ?_
      refine y_ialdx cx d_X8_greatestShare_38 39 rfl e_PS_inner (by decide) h (fun x_10 h => ?_)
      refine z_iload cx d_X8_greatestShare_39 41 rfl 0 rfl ?_
      refine y_iadd cx d_X8_greatestShare_41 42 rfl ?_
      refine y_iconst cx d_X8_greatestShare_42 43 rfl ?_
      refine y_isub cx d_X8_greatestShare_43 44 rfl ?_
      refine z_iload cx d_X8_greatestShare_44 46 rfl 0 rfl ?_
      refine y_idiv cx d_X8_greatestShare_46 47 rfl h (fun h => ?_)
      refine y_mmax cx d_X8_greatestShare_47 50 rfl q_944 q_945 q_43 q_946 (Nat.le_of_ble_eq_true rfl) (Nat.le_of_ble_eq_true rfl) (Nat.zero_le _) (Nat.zero_le _) ?_
      refine y_istore_n_b cx d_X8_greatestShare_50 51 rfl rfl (by decide) (fun y => [(2, .int (zI y)), (4, .int (zI v4_7)), (0, .ref (g.2.2 70)), (1, .int (zI a1)), (3, .int (zI v3_3))]) (fun y => rfl) h (fun v2_11 h => ?_)
      refine z_sub [2, 3, 0, 4] rfl ?_
      exact hk_9 _ h
def zrPS_fewestForests : Room := { frames := 4, cells := 0, slots := 0, locals := 90 }
set_option maxHeartbeats 4000000 in
theorem tPS_fewestForests {l : Launch} {g : ZG} {X : ZB} {N : ZB} {T : ZB} {Rd : ZB} {Fr : ZB} {Ac : ZA} {Ch : ZB} {PS : ZB} {Ly : ZB} {Pa : ZQ} {OT : ZB} {Ea : ZB} {Ga : ZB} {Im0 : ZO} {Im1 : ZO} {La : ZB}  {r : Int × ZB} (h : fPS_fewestForests N PS = some r) : zMi l yX8_fewestForests cX8_fewestForests 1 (some .int) zrPS_fewestForests g [.ref (g.2.2 70)] (wX g X N T Rd Fr Ac Ch PS Ly Pa OT Ea Ga Im0 Im1 La) (wX g X N T Rd Fr Ac Ch r.2 Ly Pa OT Ea Ga Im0 Im1 La) (zI r.1) := by
  unfold fPS_fewestForests at h
  refine zMi_q (own := RX8) rfl (by decide +kernel) (Nat.le_of_ble_eq_true rfl) (lv := [(0, .ref (g.2.2 70))]) rfl ⟨rfl, rfl⟩ ?_
  intro p e s m args below meth c A Q hQ cx
  refine z_aload_n cx d_X8_fewestForests_0 1 rfl rfl 0 rfl ?_
  refine y_iconst cx d_X8_fewestForests_1 2 rfl ?_
  refine y_callV_i (As := [.int (zI 1)]) (rest := []) (W := fun u_1 => wX g X N T Rd Fr Ac Ch u_1.2 Ly Pa OT Ea Ga Im0 Im1 La) (rf := fun u_1 => zI u_1.1) (rm := zrPS_greatestShare) cx (fun _ hq => tPS_greatestShare hq) d_X8_fewestForests_2 5 rfl kk_X8_greatestShare q_932 q_934 q_22 rfl e_PS rfl ⟨rfl, rfl⟩ ⟨Nat.le_of_ble_eq_true rfl, Nat.le_of_ble_eq_true rfl⟩ rfl rfl (Nat.le_of_ble_eq_true rfl) ⟨Nat.zero_le _, Nat.zero_le _⟩ h (fun u_1 h => ?_)
  subst hQ
  obtain rfl := Option.some.inj h
  exact z_iret cx d_X8_fewestForests_5 rfl rfl
def zrPS_mostTrees : Room := { frames := 4, cells := 0, slots := 0, locals := 90 }
set_option maxHeartbeats 4000000 in
theorem tPS_mostTrees {l : Launch} {g : ZG} {X : ZB} {N : ZB} {T : ZB} {Rd : ZB} {Fr : ZB} {Ac : ZA} {Ch : ZB} {PS : ZB} {Ly : ZB} {Pa : ZQ} {OT : ZB} {Ea : ZB} {Ga : ZB} {Im0 : ZO} {Im1 : ZO} {La : ZB}  {r : Int × ZB} (h : fPS_mostTrees N PS = some r) : zMi l yX8_mostTrees cX8_mostTrees 3 (some .int) zrPS_mostTrees g [.ref (g.2.2 70)] (wX g X N T Rd Fr Ac Ch PS Ly Pa OT Ea Ga Im0 Im1 La) (wX g X N T Rd Fr Ac Ch r.2 Ly Pa OT Ea Ga Im0 Im1 La) (zI r.1) := by
  unfold fPS_mostTrees at h
  refine zMi_q (own := RX8) rfl (by decide +kernel) (Nat.le_of_ble_eq_true rfl) (lv := [(0, .ref (g.2.2 70))]) rfl ⟨rfl, rfl⟩ ?_
  intro p e s m args below meth c A Q hQ cx
  refine z_aload_n cx d_X8_mostTrees_0 1 rfl rfl 0 rfl ?_
  refine z_get cx d_X8_mostTrees_1 4 rfl e_PS rfl zX8 0 (by decide) q_306 rfl rfl ?_
  refine z_get cx d_X8_mostTrees_4 7 rfl e_N rfl zX5 4 (by decide) q_81 rfl rfl ?_
  refine y_iconst cx d_X8_mostTrees_7 8 rfl ?_
  refine y_isub cx d_X8_mostTrees_8 9 rfl ?_
  refine y_istore_n_b cx d_X8_mostTrees_9 10 rfl rfl (by decide) (fun y => [(1, .int (zI y)), (0, .ref (g.2.2 70))]) (fun y => rfl) h (fun v1_1 h => ?_)
  refine y_iconst cx d_X8_mostTrees_10 11 rfl ?_
  refine y_istore_n cx d_X8_mostTrees_11 12 rfl rfl (by decide) (lv' := [(2, .int (zI 0)), (1, .int (zI v1_1)), (0, .ref (g.2.2 70))]) rfl ?_
  refine z_sub [2, 1, 0] rfl ?_
  refine lop2_f (P := fun (v2_2 : Int) (PS_3 : ZB) => V p l e zrPS_mostTrees s m args below meth c A s.heap g 3 Q (wX g X N T Rd Fr Ac Ch PS_3 Ly Pa OT Ea Ga Im0 Im1 La) 0 0 [(0, .ref (g.2.2 70)), (1, .int (zI v1_1)), (2, .int (zI v2_2))] 12 []) (fun rec_4 hrec_4 v2_2 PS_3 h => ?_) _ _ _ h
  refine z_iload_n cx d_X8_mostTrees_12 13 rfl rfl 2 rfl ?_
  refine y_bipush cx d_X8_mostTrees_13 15 rfl (by decide) ?_
  refine kf1_f (P := fun (PS_5 : ZB) => V p l e zrPS_mostTrees s m args below meth c A s.heap g 3 Q (wX g X N T Rd Fr Ac Ch PS_5 Ly Pa OT Ea Ga Im0 Im1 La) 0 0 [(2, .int (zI v2_2))] 42 []) h (fun PS_5 h => ?_) (fun k_6 hk_6 h => ?_)
  · refine z_iload_n cx d_X8_mostTrees_42 43 rfl rfl 0 rfl ?_
    subst hQ
    obtain rfl := Option.some.inj h
    exact z_iret cx d_X8_mostTrees_43 rfl rfl
  refine y_icmp_ge cx d_X8_mostTrees_15 18 rfl 42 (by decide) rfl (nm_eq (x := 24) (by decide) (by decide)) h (fun h => ?_) (fun h => ?_)
  · refine z_sub [2] rfl ?_
    exact hk_6 _ h
  · refine z_aload_n cx d_X8_mostTrees_18 19 rfl rfl 0 rfl ?_
    refine z_iload_n cx d_X8_mostTrees_19 20 rfl rfl 2 rfl ?_
    refine y_iconst cx d_X8_mostTrees_20 21 rfl ?_
    refine y_iadd cx d_X8_mostTrees_21 22 rfl ?_
    refine y_callV_i (As := [.int (zI (v2_2 + 1))]) (rest := []) (W := fun u_7 => wX g X N T Rd Fr Ac Ch u_7.2 Ly Pa OT Ea Ga Im0 Im1 La) (rf := fun u_7 => zI u_7.1) (rm := zrPS_takeByNumber) cx (fun _ hq => tPS_takeByNumber hq) d_X8_mostTrees_22 25 rfl kk_X8_takeByNumber q_982 q_576 q_577 rfl e_PS rfl ⟨rfl, rfl⟩ ⟨Nat.le_of_ble_eq_true rfl, Nat.le_of_ble_eq_true rfl⟩ rfl rfl (Nat.le_of_ble_eq_true rfl) ⟨Nat.zero_le _, Nat.zero_le _⟩ h (fun u_7 h => ?_)
    refine y_callS_i (As := [.int (zI u_7.1)]) (rest := []) (W := fun u_8 => wX g X N T Rd Fr Ac Ch u_7.2 Ly Pa OT Ea Ga Im0 Im1 La) (rf := fun u_8 => zI u_8) (rm := zr0) cx (fun _ hq => tJI_bitCount hq) d_X8_mostTrees_25 28 rfl kk_B_bitCount q_600 q_601 ⟨rfl, rfl⟩ ⟨Nat.le_of_ble_eq_true rfl, Nat.le_of_ble_eq_true rfl⟩ rfl rfl (Nat.le_of_ble_eq_true rfl) ⟨Nat.zero_le _, Nat.zero_le _⟩ h (fun u_8 h => ?_)
    refine z_iload_n cx d_X8_mostTrees_28 29 rfl rfl 2 rfl ?_
    refine y_iconst cx d_X8_mostTrees_29 30 rfl ?_
    refine y_iadd cx d_X8_mostTrees_30 31 rfl ?_
    refine z_iload_n cx d_X8_mostTrees_31 32 rfl rfl 1 rfl ?_
    refine y_imul cx d_X8_mostTrees_32 33 rfl ?_
    refine y_icmp_ne cx d_X8_mostTrees_33 36 rfl 42 (by decide) rfl rfl h (fun h => ?_) (fun h => ?_)
    · refine z_sub [2] rfl ?_
      exact hk_6 _ h
    · refine y_iinc cx 2 d_X8_mostTrees_36 39 rfl rfl (by decide) (lv' := [(2, .int (zI (v2_2 + 1))), (0, .ref (g.2.2 70)), (1, .int (zI v1_1))]) rfl ?_
      refine z_goto cx d_X8_mostTrees_39 12 (by decide) ?_
      refine z_sub [1, 2, 0] rfl ?_
      exact hrec_4 _ _ h
def zrPS_findThick_itself : Room := { frames := 2, cells := 0, slots := 0, locals := 46 }
set_option maxHeartbeats 4000000 in
theorem tPS_findThick_itself {l : Launch} {g : ZG} {X : ZB} {N : ZB} {T : ZB} {Rd : ZB} {Fr : ZB} {Ac : ZA} {Ch : ZB} {PS : ZB} {Ly : ZB} {Pa : ZQ} {OT : ZB} {Ea : ZB} {Ga : ZB} {Im0 : ZO} {Im1 : ZO} {La : ZB} {a2 : Int} {r : ZB} (h : fPS_findThick_itself N PS a2 = some r) : zMv l yX8_findThick_ cX8_findThick_ 6 none zrPS_findThick_itself g [.ref (g.2.2 70), .ref (g.2.2 73), .int (zI a2)] (wX g X N T Rd Fr Ac Ch PS Ly Pa OT Ea Ga Im0 Im1 La) (wX g X N T Rd Fr Ac Ch r Ly Pa OT Ea Ga Im0 Im1 La) := by
  unfold fPS_findThick_itself at h
  refine zMv_q (own := RX8) rfl (by decide +kernel) (Nat.le_of_ble_eq_true rfl) (lv := [(0, .ref (g.2.2 70)), (1, .ref (g.2.2 73)), (2, .int (zI a2))]) rfl ⟨rfl, rfl⟩ ?_
  intro p e s m args below meth c A Q hQ cx
  refine z_aload_n cx d_X8_findThick__0 1 rfl rfl 0 rfl ?_
  refine z_aload_n cx d_X8_findThick__1 2 rfl rfl 1 rfl ?_
  refine y_callV_v (As := [.ref (g.2.2 73)]) (rest := []) (W := fun u_1 => wX g X N T Rd Fr Ac Ch u_1 Ly Pa OT Ea Ga Im0 Im1 La) (rm := zrPS_countInner_itself) cx (fun _ hq => tPS_countInner_itself hq) d_X8_findThick__2 5 rfl kk_X8_countInner_ q_940 q_942 q_23 rfl e_PS rfl ⟨rfl, rfl⟩ ⟨Nat.le_of_ble_eq_true rfl, Nat.le_of_ble_eq_true rfl⟩ rfl rfl (Nat.le_of_ble_eq_true rfl) ⟨Nat.zero_le _, Nat.zero_le _⟩ h (fun u_1 h => ?_)
  refine z_aload_n cx d_X8_findThick__5 6 rfl rfl 0 rfl ?_
  refine y_iconst cx d_X8_findThick__6 7 rfl ?_
  refine y_put cx d_X8_findThick__7 10 rfl e_PS rfl zX8 tyX8_ok nmX8 4 (by decide) q_310 rfl rfl rfl rfl (Nat.le_of_ble_eq_true rfl) h (fun _ h9 => s_PS_4 h9) (fun PS_2 h => ?_)
  refine z_aload_n cx d_X8_findThick__10 11 rfl rfl 0 rfl ?_
  refine y_iconst cx d_X8_findThick__11 12 rfl ?_
  refine y_put cx d_X8_findThick__12 15 rfl e_PS rfl zX8 tyX8_ok nmX8 5 (by decide) q_311 rfl rfl rfl rfl (Nat.le_of_ble_eq_true rfl) h (fun _ h9 => s_PS_5 h9) (fun PS_3 h => ?_)
  refine z_aload_n cx d_X8_findThick__15 16 rfl rfl 0 rfl ?_
  refine y_iconst cx d_X8_findThick__16 17 rfl ?_
  refine y_put cx d_X8_findThick__17 20 rfl e_PS rfl zX8 tyX8_ok nmX8 6 (by decide) q_312 rfl rfl rfl rfl (Nat.le_of_ble_eq_true rfl) h (fun _ h9 => s_PS_6 h9) (fun PS_4 h => ?_)
  refine y_iconst cx d_X8_findThick__20 21 rfl ?_
  refine y_istore_n cx d_X8_findThick__21 22 rfl rfl (by decide) (lv' := [(3, .int (zI 3)), (0, .ref (g.2.2 70)), (1, .ref (g.2.2 73)), (2, .int (zI a2))]) rfl ?_
  refine z_sub [1, 3, 0] rfl ?_
  refine lop2_f (P := fun (v3_5 : Int) (PS_6 : ZB) => V p l e zrPS_findThick_itself s m args below meth c A s.heap g 6 Q (wX g X N T Rd Fr Ac Ch PS_6 Ly Pa OT Ea Ga Im0 Im1 La) 0 0 [(0, .ref (g.2.2 70)), (2, .int (zI a2)), (3, .int (zI v3_5))] 22 []) (fun rec_7 hrec_7 v3_5 PS_6 h => ?_) _ _ _ h
  refine z_iload_n cx d_X8_findThick__22 23 rfl rfl 2 rfl ?_
  refine z_iload_n cx d_X8_findThick__23 24 rfl rfl 1 rfl ?_
  refine y_icmp_gt cx d_X8_findThick__24 27 rfl 119 (by decide) rfl rfl h (fun h => ?_) (fun h => ?_)
  · subst hQ
    obtain rfl := Option.some.inj h
    exact z_vret cx d_X8_findThick__119 rfl
  · refine z_iload_n cx d_X8_findThick__27 28 rfl rfl 2 rfl ?_
    refine y_callS_i (As := [.int (zI v3_5)]) (rest := []) (W := fun u_8 => wX g X N T Rd Fr Ac Ch PS_6 Ly Pa OT Ea Ga Im0 Im1 La) (rf := fun u_8 => zI u_8) (rm := zr0) cx (fun _ hq => tJI_bitCount hq) d_X8_findThick__28 31 rfl kk_B_bitCount q_600 q_601 ⟨rfl, rfl⟩ ⟨Nat.le_of_ble_eq_true rfl, Nat.le_of_ble_eq_true rfl⟩ rfl rfl (Nat.le_of_ble_eq_true rfl) ⟨Nat.zero_le _, Nat.zero_le _⟩ h (fun u_8 h => ?_)
    refine y_iconst cx d_X8_findThick__31 32 rfl ?_
    refine y_isub cx d_X8_findThick__32 33 rfl ?_
    refine y_istore_b cx d_X8_findThick__33 35 rfl (by decide) (fun y => [(4, .int (zI y)), (0, .ref (g.2.2 70)), (2, .int (zI a2)), (3, .int (zI v3_5))]) (fun y => rfl) h (fun v4_9 h => ?_)
    refine z_iload_n cx d_X8_findThick__35 36 rfl rfl 3 rfl ?_
    refine z_iload_n cx d_X8_findThick__36 37 rfl rfl 2 rfl ?_
    refine y_iconst cx d_X8_findThick__37 38 rfl ?_
    refine y_ixor cx d_X8_findThick__38 39 rfl ?_
    refine y_iand cx d_X8_findThick__39 40 rfl ?_
    refine kf1_f (P := fun (PS_10 : ZB) => V p l e zrPS_findThick_itself s m args below meth c A s.heap g 6 Q (wX g X N T Rd Fr Ac Ch PS_10 Ly Pa OT Ea Ga Im0 Im1 La) 0 0 [(0, .ref (g.2.2 70)), (2, .int (zI a2)), (3, .int (zI v3_5))] 113 []) h (fun PS_10 h => ?_) (fun k_11 hk_11 h => ?_)
    · refine y_iinc cx 2 d_X8_findThick__113 116 rfl rfl (by decide) (lv' := [(3, .int (zI (v3_5 + 1))), (0, .ref (g.2.2 70)), (2, .int (zI a2))]) rfl ?_
      refine z_goto cx d_X8_findThick__116 22 (by decide) ?_
      refine z_sub [1, 2, 0] rfl ?_
      exact hrec_7 _ _ h
    refine y_if_ne cx d_X8_findThick__40 43 rfl 113 (by decide) (nm_zand _ _) h (fun h => ?_) (fun h => ?_)
    · refine z_sub [1, 2, 3] rfl ?_
      exact hk_11 _ h
    · refine z_iload cx d_X8_findThick__43 45 rfl 0 rfl ?_
      refine y_iconst cx d_X8_findThick__45 46 rfl ?_
      refine y_icmp_ge cx d_X8_findThick__46 49 rfl 52 (by decide) rfl (nm_eq (x := 1) (by decide) (by decide)) h (fun h => ?_) (fun h => ?_)
      · refine z_aload_n cx d_X8_findThick__52 53 rfl rfl 1 rfl ?_
        refine z_get cx d_X8_findThick__53 56 rfl e_PS rfl zX8 1 (by decide) q_307 rfl rfl ?_
        refine z_iload_n cx d_X8_findThick__56 57 rfl rfl 3 rfl ?_
        refine y_ialdx cx d_X8_findThick__57 58 rfl e_PS_inner (by decide) h (fun x_12 h => ?_)
        refine z_aload_n cx d_X8_findThick__58 59 rfl rfl 1 rfl ?_
        refine z_get cx d_X8_findThick__59 62 rfl e_PS rfl zX8 6 (by decide) q_312 rfl rfl ?_
        refine y_imul cx d_X8_findThick__62 63 rfl ?_
        refine z_aload_n cx d_X8_findThick__63 64 rfl rfl 1 rfl ?_
        refine z_get cx d_X8_findThick__64 67 rfl e_PS rfl zX8 5 (by decide) q_311 rfl rfl ?_
        refine z_iload cx d_X8_findThick__67 69 rfl 0 rfl ?_
        refine y_imul cx d_X8_findThick__69 70 rfl ?_
        refine y_isub cx d_X8_findThick__70 71 rfl ?_
        refine y_istore_b cx d_X8_findThick__71 73 rfl (by decide) (fun y => [(5, .int (zI y)), (4, .int (zI v4_9)), (0, .ref (g.2.2 70)), (2, .int (zI a2)), (3, .int (zI v3_5))]) (fun y => rfl) h (fun v5_13 h => ?_)
        refine z_iload cx d_X8_findThick__73 75 rfl 0 rfl ?_
        refine kf0_f (P := V p l e zrPS_findThick_itself s m args below meth c A s.heap g 6 Q (wX g X N T Rd Fr Ac Ch PS_6 Ly Pa OT Ea Ga Im0 Im1 La) 0 0 [(0, .ref (g.2.2 70)), (2, .int (zI a2)), (3, .int (zI v3_5)), (4, .int (zI v4_9))] 92 []) h (fun h => ?_) (fun k_14 hk_14 h => ?_)
        · refine z_aload_n cx d_X8_findThick__92 93 rfl rfl 0 rfl ?_
          refine z_iload_n cx d_X8_findThick__93 94 rfl rfl 2 rfl ?_
          refine y_put cx d_X8_findThick__94 97 rfl e_PS rfl zX8 tyX8_ok nmX8 4 (by decide) q_310 rfl rfl rfl rfl (Nat.le_of_ble_eq_true rfl) h (fun _ h9 => s_PS_4 h9) (fun PS_15 h => ?_)
          refine z_aload_n cx d_X8_findThick__97 98 rfl rfl 0 rfl ?_
          refine z_aload_n cx d_X8_findThick__98 99 rfl rfl 0 rfl ?_
          refine z_get cx d_X8_findThick__99 102 rfl e_PS rfl zX8 1 (by decide) q_307 rfl rfl ?_
          refine z_iload_n cx d_X8_findThick__102 103 rfl rfl 2 rfl ?_
          refine y_ialdx cx d_X8_findThick__103 104 rfl e_PS_inner (by decide) h (fun x_16 h => ?_)
          refine y_put cx d_X8_findThick__104 107 rfl e_PS rfl zX8 tyX8_ok nmX8 5 (by decide) q_311 rfl rfl rfl rfl (Nat.le_of_ble_eq_true rfl) h (fun _ h9 => s_PS_5 h9) (fun PS_17 h => ?_)
          refine z_aload_n cx d_X8_findThick__107 108 rfl rfl 0 rfl ?_
          refine z_iload cx d_X8_findThick__108 110 rfl 3 rfl ?_
          refine y_put cx d_X8_findThick__110 113 rfl e_PS rfl zX8 tyX8_ok nmX8 6 (by decide) q_312 rfl rfl rfl rfl (Nat.le_of_ble_eq_true rfl) h (fun _ h9 => s_PS_6 h9) (fun PS_18 h => ?_)
          refine z_sub [0, 1, 2] rfl ?_
          exact hk_11 _ h
        refine y_if_gt cx d_X8_findThick__75 78 rfl 92 (by decide) rfl h (fun h => ?_) (fun h => ?_)
        · refine z_sub [2, 3, 4, 1] rfl ?_
          exact hk_14  h
        · refine z_iload cx d_X8_findThick__78 80 rfl 0 rfl ?_
          refine y_if_ne cx d_X8_findThick__80 83 rfl 113 (by decide) rfl h (fun h => ?_) (fun h => ?_)
          · refine z_sub [2, 3, 4] rfl ?_
            exact hk_11 _ h
          · refine z_iload cx d_X8_findThick__83 85 rfl 1 rfl ?_
            refine z_aload_n cx d_X8_findThick__85 86 rfl rfl 2 rfl ?_
            refine z_get cx d_X8_findThick__86 89 rfl e_PS rfl zX8 6 (by decide) q_312 rfl rfl ?_
            refine y_icmp_ge cx d_X8_findThick__89 92 rfl 113 (by decide) rfl rfl h (fun h => ?_) (fun h => ?_)
            · refine z_sub [2, 3, 4] rfl ?_
              exact hk_11 _ h
            · refine z_sub [2, 3, 4, 1] rfl ?_
              exact hk_14  h
      · refine z_goto cx d_X8_findThick__49 113 (by decide) ?_
        refine z_sub [1, 2, 3] rfl ?_
        exact hk_11 _ h
def zrPS_findThick0 : Room := { frames := 3, cells := 0, slots := 0, locals := 71 }
set_option maxHeartbeats 4000000 in
theorem tPS_findThick0 {l : Launch} {g : ZG} {X : ZB} {N : ZB} {T : ZB} {Rd : ZB} {Fr : ZB} {Ac : ZA} {Ch : ZB} {PS : ZB} {Ly : ZB} {Pa : ZQ} {OT : ZB} {Ea : ZB} {Ga : ZB} {Im0 : ZO} {Im1 : ZO} {La : ZB}  {r : ZB} (h : fPS_findThick0 N PS = some r) : zMv l yX8_findThick cX8_findThick 1 none zrPS_findThick0 g [.ref (g.2.2 70)] (wX g X N T Rd Fr Ac Ch PS Ly Pa OT Ea Ga Im0 Im1 La) (wX g X N T Rd Fr Ac Ch r Ly Pa OT Ea Ga Im0 Im1 La) := by
  unfold fPS_findThick0 at h
  refine zMv_q (own := RX8) rfl (by decide +kernel) (Nat.le_of_ble_eq_true rfl) (lv := [(0, .ref (g.2.2 70))]) rfl ⟨rfl, rfl⟩ ?_
  intro p e s m args below meth c A Q hQ cx
  refine z_aload_n cx d_X8_findThick_0 1 rfl rfl 0 rfl ?_
  refine z_aload_n cx d_X8_findThick_1 2 rfl rfl 0 rfl ?_
  refine z_get cx d_X8_findThick_2 5 rfl e_PS rfl zX8 3 (by decide) q_309 rfl rfl ?_
  refine z_aload_n cx d_X8_findThick_5 6 rfl rfl 0 rfl ?_
  refine z_get cx d_X8_findThick_6 9 rfl e_PS rfl zX8 0 (by decide) q_306 rfl rfl ?_
  refine y_callV_i (As := []) (rest := [.ref (g.2.2 73), .ref (g.2.2 70)]) (W := fun u_1 => wX g X N T Rd Fr Ac Ch PS Ly Pa OT Ea Ga Im0 Im1 La) (rf := fun u_1 => zI u_1) (rm := zr0) cx (fun _ hq => tN_allPoints hq) d_X8_findThick_9 12 rfl kk_X5_allPoints q_583 q_584 q_585 rfl e_N rfl ⟨rfl, rfl⟩ ⟨Nat.le_of_ble_eq_true rfl, Nat.le_of_ble_eq_true rfl⟩ rfl rfl (Nat.le_of_ble_eq_true rfl) ⟨Nat.zero_le _, Nat.zero_le _⟩ h (fun u_1 h => ?_)
  refine y_callV_v (As := [.ref (g.2.2 73), .int (zI u_1)]) (rest := []) (W := fun u_2 => wX g X N T Rd Fr Ac Ch u_2 Ly Pa OT Ea Ga Im0 Im1 La) (rm := zrPS_findThick_itself) cx (fun _ hq => tPS_findThick_itself hq) d_X8_findThick_12 15 rfl kk_X8_findThick_ q_955 q_956 q_957 rfl e_PS rfl ⟨rfl, rfl⟩ ⟨Nat.le_of_ble_eq_true rfl, Nat.le_of_ble_eq_true rfl⟩ rfl rfl (Nat.le_of_ble_eq_true rfl) ⟨Nat.zero_le _, Nat.zero_le _⟩ h (fun u_2 h => ?_)
  subst hQ
  obtain rfl := Option.some.inj h
  exact z_vret cx d_X8_findThick_15 rfl
set_option maxHeartbeats 4000000 in
theorem tPS_bestAbove {l : Launch} {g : ZG} {X : ZB} {N : ZB} {T : ZB} {Rd : ZB} {Fr : ZB} {Ac : ZA} {Ch : ZB} {PS : ZB} {Ly : ZB} {Pa : ZQ} {OT : ZB} {Ea : ZB} {Ga : ZB} {Im0 : ZO} {Im1 : ZO} {La : ZB}  {r : Int} (h : fPS_bestAbove PS = some r) : zMi l yX8_bestAbove cX8_bestAbove 1 (some .int) zr0 g [.ref (g.2.2 70)] (wX g X N T Rd Fr Ac Ch PS Ly Pa OT Ea Ga Im0 Im1 La) (wX g X N T Rd Fr Ac Ch PS Ly Pa OT Ea Ga Im0 Im1 La) (zI r) := by
  unfold fPS_bestAbove at h
  refine zMi_q (own := RX8) rfl (by decide +kernel) (Nat.le_of_ble_eq_true rfl) (lv := [(0, .ref (g.2.2 70))]) rfl ⟨rfl, rfl⟩ ?_
  intro p e s m args below meth c A Q hQ cx
  refine z_aload_n cx d_X8_bestAbove_0 1 rfl rfl 0 rfl ?_
  refine z_get cx d_X8_bestAbove_1 4 rfl e_PS rfl zX8 5 (by decide) q_311 rfl rfl ?_
  subst hQ
  obtain rfl := Option.some.inj h
  exact z_iret cx d_X8_bestAbove_4 rfl rfl
set_option maxHeartbeats 4000000 in
theorem tPS_bestBelow {l : Launch} {g : ZG} {X : ZB} {N : ZB} {T : ZB} {Rd : ZB} {Fr : ZB} {Ac : ZA} {Ch : ZB} {PS : ZB} {Ly : ZB} {Pa : ZQ} {OT : ZB} {Ea : ZB} {Ga : ZB} {Im0 : ZO} {Im1 : ZO} {La : ZB}  {r : Int} (h : fPS_bestBelow PS = some r) : zMi l yX8_bestBelow cX8_bestBelow 1 (some .int) zr0 g [.ref (g.2.2 70)] (wX g X N T Rd Fr Ac Ch PS Ly Pa OT Ea Ga Im0 Im1 La) (wX g X N T Rd Fr Ac Ch PS Ly Pa OT Ea Ga Im0 Im1 La) (zI r) := by
  unfold fPS_bestBelow at h
  refine zMi_q (own := RX8) rfl (by decide +kernel) (Nat.le_of_ble_eq_true rfl) (lv := [(0, .ref (g.2.2 70))]) rfl ⟨rfl, rfl⟩ ?_
  intro p e s m args below meth c A Q hQ cx
  refine z_aload_n cx d_X8_bestBelow_0 1 rfl rfl 0 rfl ?_
  refine z_get cx d_X8_bestBelow_1 4 rfl e_PS rfl zX8 6 (by decide) q_312 rfl rfl ?_
  subst hQ
  obtain rfl := Option.some.inj h
  exact z_iret cx d_X8_bestBelow_4 rfl rfl
set_option maxHeartbeats 4000000 in
theorem tPS_bestSet {l : Launch} {g : ZG} {X : ZB} {N : ZB} {T : ZB} {Rd : ZB} {Fr : ZB} {Ac : ZA} {Ch : ZB} {PS : ZB} {Ly : ZB} {Pa : ZQ} {OT : ZB} {Ea : ZB} {Ga : ZB} {Im0 : ZO} {Im1 : ZO} {La : ZB}  {r : Int} (h : fPS_bestSet PS = some r) : zMi l yX8_bestSet cX8_bestSet 1 (some .int) zr0 g [.ref (g.2.2 70)] (wX g X N T Rd Fr Ac Ch PS Ly Pa OT Ea Ga Im0 Im1 La) (wX g X N T Rd Fr Ac Ch PS Ly Pa OT Ea Ga Im0 Im1 La) (zI r) := by
  unfold fPS_bestSet at h
  refine zMi_q (own := RX8) rfl (by decide +kernel) (Nat.le_of_ble_eq_true rfl) (lv := [(0, .ref (g.2.2 70))]) rfl ⟨rfl, rfl⟩ ?_
  intro p e s m args below meth c A Q hQ cx
  refine z_aload_n cx d_X8_bestSet_0 1 rfl rfl 0 rfl ?_
  refine z_get cx d_X8_bestSet_1 4 rfl e_PS rfl zX8 4 (by decide) q_310 rfl rfl ?_
  subst hQ
  obtain rfl := Option.some.inj h
  exact z_iret cx d_X8_bestSet_4 rfl rfl
def zrPS_findCrowded : Room := { frames := 3, cells := 0, slots := 0, locals := 66 }
set_option maxHeartbeats 4000000 in
theorem tPS_findCrowded {l : Launch} {g : ZG} {X : ZB} {N : ZB} {T : ZB} {Rd : ZB} {Fr : ZB} {Ac : ZA} {Ch : ZB} {PS : ZB} {Ly : ZB} {Pa : ZQ} {OT : ZB} {Ea : ZB} {Ga : ZB} {Im0 : ZO} {Im1 : ZO} {La : ZB} {a1 : Int} {r : Int × ZB} (h : fPS_findCrowded N PS a1 = some r) : zMi l yX8_findCrowded cX8_findCrowded 8 (some .int) zrPS_findCrowded g [.ref (g.2.2 70), .int (zI a1)] (wX g X N T Rd Fr Ac Ch PS Ly Pa OT Ea Ga Im0 Im1 La) (wX g X N T Rd Fr Ac Ch r.2 Ly Pa OT Ea Ga Im0 Im1 La) (zI r.1) := by
  unfold fPS_findCrowded at h
  refine zMi_q (own := RX8) rfl (by decide +kernel) (Nat.le_of_ble_eq_true rfl) (lv := [(0, .ref (g.2.2 70)), (1, .int (zI a1))]) rfl ⟨rfl, rfl⟩ ?_
  intro p e s m args below meth c A Q hQ cx
  refine z_aload_n cx d_X8_findCrowded_0 1 rfl rfl 0 rfl ?_
  refine y_callV_v (As := []) (rest := []) (W := fun u_1 => wX g X N T Rd Fr Ac Ch u_1 Ly Pa OT Ea Ga Im0 Im1 La) (rm := zrPS_countInner0) cx (fun _ hq => tPS_countInner0 hq) d_X8_findCrowded_1 4 rfl kk_X8_countInner q_936 q_937 q_938 rfl e_PS rfl ⟨rfl, rfl⟩ ⟨Nat.le_of_ble_eq_true rfl, Nat.le_of_ble_eq_true rfl⟩ rfl rfl (Nat.le_of_ble_eq_true rfl) ⟨Nat.zero_le _, Nat.zero_le _⟩ h (fun u_1 h => ?_)
  refine y_iconst cx d_X8_findCrowded_4 5 rfl ?_
  refine y_istore_n cx d_X8_findCrowded_5 6 rfl rfl (by decide) (lv' := [(2, .int (zI 0)), (0, .ref (g.2.2 70)), (1, .int (zI a1))]) rfl ?_
  refine y_iconst cx d_X8_findCrowded_6 7 rfl ?_
  refine y_istore_n cx d_X8_findCrowded_7 8 rfl rfl (by decide) (lv' := [(3, .int (zI 0)), (2, .int (zI 0)), (0, .ref (g.2.2 70)), (1, .int (zI a1))]) rfl ?_
  refine y_iconst cx d_X8_findCrowded_8 9 rfl ?_
  refine y_istore cx d_X8_findCrowded_9 11 rfl (by decide) (lv' := [(4, .int (zI 0)), (3, .int (zI 0)), (2, .int (zI 0)), (0, .ref (g.2.2 70)), (1, .int (zI a1))]) rfl ?_
  refine y_iconst cx d_X8_findCrowded_11 12 rfl ?_
  refine y_istore cx d_X8_findCrowded_12 14 rfl (by decide) (lv' := [(5, .int (zI 3)), (4, .int (zI 0)), (3, .int (zI 0)), (2, .int (zI 0)), (0, .ref (g.2.2 70)), (1, .int (zI a1))]) rfl ?_
  refine z_sub [4, 5, 3, 2, 1, 0] rfl ?_
  refine lop4_f (P := fun (v2_2 : Int) (v3_3 : Int) (v4_4 : Int) (v5_5 : Int) => V p l e zrPS_findCrowded s m args below meth c A s.heap g 8 Q (wX g X N T Rd Fr Ac Ch u_1 Ly Pa OT Ea Ga Im0 Im1 La) 0 0 [(0, .ref (g.2.2 70)), (1, .int (zI a1)), (2, .int (zI v2_2)), (3, .int (zI v3_3)), (4, .int (zI v4_4)), (5, .int (zI v5_5))] 14 []) (fun rec_6 hrec_6 v2_2 v3_3 v4_4 v5_5 h => ?_) _ _ _ _ _ h
  refine z_iload cx d_X8_findCrowded_14 16 rfl 5 rfl ?_
  refine z_aload_n cx d_X8_findCrowded_16 17 rfl rfl 0 rfl ?_
  refine z_get cx d_X8_findCrowded_17 20 rfl e_PS rfl zX8 0 (by decide) q_306 rfl rfl ?_
  refine y_callV_i (As := []) (rest := [.int (zI v5_5)]) (W := fun u_7 => wX g X N T Rd Fr Ac Ch u_1 Ly Pa OT Ea Ga Im0 Im1 La) (rf := fun u_7 => zI u_7) (rm := zr0) cx (fun _ hq => tN_allPoints hq) d_X8_findCrowded_20 23 rfl kk_X5_allPoints q_583 q_584 q_585 rfl e_N rfl ⟨rfl, rfl⟩ ⟨Nat.le_of_ble_eq_true rfl, Nat.le_of_ble_eq_true rfl⟩ rfl rfl (Nat.le_of_ble_eq_true rfl) ⟨Nat.zero_le _, Nat.zero_le _⟩ h (fun u_7 h => ?_)
  refine y_icmp_gt cx d_X8_findCrowded_23 26 rfl 93 (by decide) rfl rfl h (fun h => ?_) (fun h => ?_)
  · refine z_iload_n cx d_X8_findCrowded_93 94 rfl rfl 2 rfl ?_
    subst hQ
    obtain rfl := Option.some.inj h
    exact z_iret cx d_X8_findCrowded_94 rfl rfl
  · refine z_iload cx d_X8_findCrowded_26 28 rfl 5 rfl ?_
    refine y_callS_i (As := [.int (zI v5_5)]) (rest := []) (W := fun u_8 => wX g X N T Rd Fr Ac Ch u_1 Ly Pa OT Ea Ga Im0 Im1 La) (rf := fun u_8 => zI u_8) (rm := zr0) cx (fun _ hq => tJI_bitCount hq) d_X8_findCrowded_28 31 rfl kk_B_bitCount q_600 q_601 ⟨rfl, rfl⟩ ⟨Nat.le_of_ble_eq_true rfl, Nat.le_of_ble_eq_true rfl⟩ rfl rfl (Nat.le_of_ble_eq_true rfl) ⟨Nat.zero_le _, Nat.zero_le _⟩ h (fun u_8 h => ?_)
    refine y_istore cx d_X8_findCrowded_31 33 rfl (by decide) (lv' := [(6, .int (zI u_8)), (0, .ref (g.2.2 70)), (1, .int (zI a1)), (2, .int (zI v2_2)), (3, .int (zI v3_3)), (4, .int (zI v4_4)), (5, .int (zI v5_5))]) rfl ?_
    refine z_iload cx d_X8_findCrowded_33 35 rfl 0 rfl ?_
    refine y_iconst cx d_X8_findCrowded_35 36 rfl ?_
    refine kf3_f (P := fun (v2_9 : Int) (v3_10 : Int) (v4_11 : Int) => V p l e zrPS_findCrowded s m args below meth c A s.heap g 8 Q (wX g X N T Rd Fr Ac Ch u_1 Ly Pa OT Ea Ga Im0 Im1 La) 0 0 [(0, .ref (g.2.2 70)), (1, .int (zI a1)), (2, .int (zI v2_9)), (3, .int (zI v3_10)), (4, .int (zI v4_11)), (5, .int (zI v5_5))] 87 []) h (fun v2_9 v3_10 v4_11 h => ?_) (fun k_12 hk_12 h => ?_)
    · refine y_iinc cx 5 d_X8_findCrowded_87 90 rfl rfl (by decide) (lv' := [(5, .int (zI (v5_5 + 1))), (0, .ref (g.2.2 70)), (1, .int (zI a1)), (2, .int (zI v2_9)), (3, .int (zI v3_10)), (4, .int (zI v4_11))]) rfl ?_
      refine z_goto cx d_X8_findCrowded_90 14 (by decide) ?_
      refine z_sub [1, 2, 3, 4, 5, 0] rfl ?_
      exact hrec_6 _ _ _ _ h
    refine y_icmp_ge cx d_X8_findCrowded_36 39 rfl 42 (by decide) rfl (nm_eq (x := 2) (by decide) (by decide)) h (fun h => ?_) (fun h => ?_)
    · refine z_aload_n cx d_X8_findCrowded_42 43 rfl rfl 1 rfl ?_
      refine z_get cx d_X8_findCrowded_43 46 rfl e_PS rfl zX8 1 (by decide) q_307 rfl rfl ?_
      refine z_iload cx d_X8_findCrowded_46 48 rfl 6 rfl ?_
      refine y_ialdx cx d_X8_findCrowded_48 49 rfl e_PS_inner (by decide) h (fun x_13 h => ?_)
      refine z_iload_n cx d_X8_findCrowded_49 50 rfl rfl 2 rfl ?_
      refine z_iload cx d_X8_findCrowded_50 52 rfl 0 rfl ?_
      refine y_iconst cx d_X8_findCrowded_52 53 rfl ?_
      refine y_isub cx d_X8_findCrowded_53 54 rfl ?_
      refine y_imul cx d_X8_findCrowded_54 55 rfl ?_
      refine y_isub cx d_X8_findCrowded_55 56 rfl ?_
      refine y_istore_b cx d_X8_findCrowded_56 58 rfl (by decide) (fun y => [(7, .int (zI y)), (6, .int (zI u_8)), (0, .ref (g.2.2 70)), (1, .int (zI a1)), (2, .int (zI v2_2)), (3, .int (zI v3_3)), (4, .int (zI v4_4)), (5, .int (zI v5_5))]) (fun y => rfl) h (fun v7_14 h => ?_)
      refine z_iload cx d_X8_findCrowded_58 60 rfl 0 rfl ?_
      refine z_iload_n cx d_X8_findCrowded_60 61 rfl rfl 5 rfl ?_
      refine kf0_f (P := V p l e zrPS_findCrowded s m args below meth c A s.heap g 8 Q (wX g X N T Rd Fr Ac Ch u_1 Ly Pa OT Ea Ga Im0 Im1 La) 0 0 [(0, .ref (g.2.2 70)), (1, .int (zI a1)), (5, .int (zI v5_5)), (6, .int (zI u_8)), (7, .int (zI v7_14))] 77 []) h (fun h => ?_) (fun k_15 hk_15 h => ?_)
      · refine z_iload cx d_X8_findCrowded_77 79 rfl 2 rfl ?_
        refine y_istore_n cx d_X8_findCrowded_79 80 rfl rfl (by decide) (lv' := [(2, .int (zI v5_5)), (0, .ref (g.2.2 70)), (1, .int (zI a1)), (5, .int (zI v5_5)), (6, .int (zI u_8)), (7, .int (zI v7_14))]) rfl ?_
        refine z_iload cx d_X8_findCrowded_80 82 rfl 5 rfl ?_
        refine y_istore_n cx d_X8_findCrowded_82 83 rfl rfl (by decide) (lv' := [(3, .int (zI v7_14)), (2, .int (zI v5_5)), (0, .ref (g.2.2 70)), (1, .int (zI a1)), (5, .int (zI v5_5)), (6, .int (zI u_8)), (7, .int (zI v7_14))]) rfl ?_
        refine z_iload cx d_X8_findCrowded_83 85 rfl 5 rfl ?_
        refine y_istore cx d_X8_findCrowded_85 87 rfl (by decide) (lv' := [(4, .int (zI u_8)), (3, .int (zI v7_14)), (2, .int (zI v5_5)), (0, .ref (g.2.2 70)), (1, .int (zI a1)), (5, .int (zI v5_5)), (6, .int (zI u_8)), (7, .int (zI v7_14))]) rfl ?_
        refine z_sub [3, 4, 2, 1, 0, 5] rfl ?_
        exact hk_12 _ _ _ h
      refine y_icmp_gt cx d_X8_findCrowded_61 64 rfl 77 (by decide) rfl rfl h (fun h => ?_) (fun h => ?_)
      · refine z_sub [2, 3, 7, 1, 0] rfl ?_
        exact hk_15  h
      · refine z_iload cx d_X8_findCrowded_64 66 rfl 0 rfl ?_
        refine z_iload_n cx d_X8_findCrowded_66 67 rfl rfl 5 rfl ?_
        refine y_icmp_ne cx d_X8_findCrowded_67 70 rfl 87 (by decide) rfl rfl h (fun h => ?_) (fun h => ?_)
        · refine z_sub [2, 3, 4, 5, 6, 7] rfl ?_
          exact hk_12 _ _ _ h
        · refine z_iload cx d_X8_findCrowded_70 72 rfl 1 rfl ?_
          refine z_iload cx d_X8_findCrowded_72 74 rfl 6 rfl ?_
          refine y_icmp_ge cx d_X8_findCrowded_74 77 rfl 87 (by decide) rfl rfl h (fun h => ?_) (fun h => ?_)
          · refine z_sub [2, 3, 4, 5, 6, 7] rfl ?_
            exact hk_12 _ _ _ h
          · refine z_sub [2, 3, 7, 1, 0] rfl ?_
            exact hk_15  h
    · refine z_goto cx d_X8_findCrowded_39 87 (by decide) ?_
      refine z_sub [1, 2, 3, 4, 5, 6] rfl ?_
      exact hk_12 _ _ _ h
set_option maxHeartbeats 4000000 in
theorem tPS_innerOf {l : Launch} {g : ZG} {X : ZB} {N : ZB} {T : ZB} {Rd : ZB} {Fr : ZB} {Ac : ZA} {Ch : ZB} {PS : ZB} {Ly : ZB} {Pa : ZQ} {OT : ZB} {Ea : ZB} {Ga : ZB} {Im0 : ZO} {Im1 : ZO} {La : ZB} {a1 : Int} {r : Int} (h : fPS_innerOf PS a1 = some r) : zMi l yX8_innerOf cX8_innerOf 2 (some .int) zr0 g [.ref (g.2.2 70), .int (zI a1)] (wX g X N T Rd Fr Ac Ch PS Ly Pa OT Ea Ga Im0 Im1 La) (wX g X N T Rd Fr Ac Ch PS Ly Pa OT Ea Ga Im0 Im1 La) (zI r) := by
  unfold fPS_innerOf at h
  refine zMi_q (own := RX8) rfl (by decide +kernel) (Nat.le_of_ble_eq_true rfl) (lv := [(0, .ref (g.2.2 70)), (1, .int (zI a1))]) rfl ⟨rfl, rfl⟩ ?_
  intro p e s m args below meth c A Q hQ cx
  refine z_iload_n cx d_X8_innerOf_0 1 rfl rfl 1 rfl ?_
  refine kf1_f (P := fun (w0_1 : Int) => V p l e zr0 s m args below meth c A s.heap g 2 Q (wX g X N T Rd Fr Ac Ch PS Ly Pa OT Ea Ga Im0 Im1 La) 0 0 [] 21 [.int (zI w0_1)]) h (fun w0_1 h => ?_) (fun k_2 hk_2 h => ?_)
  · subst hQ
    obtain rfl := Option.some.inj h
    exact z_iret cx d_X8_innerOf_21 rfl rfl
  refine kf0_f (P := V p l e zr0 s m args below meth c A s.heap g 2 Q (wX g X N T Rd Fr Ac Ch PS Ly Pa OT Ea Ga Im0 Im1 La) 0 0 [] 11 []) h (fun h => ?_) (fun k_3 hk_3 h => ?_)
  · refine y_iconst cx d_X8_innerOf_11 12 rfl ?_
    refine z_goto cx d_X8_innerOf_12 21 (by decide) ?_
    exact hk_2 _ h
  refine y_if_lt cx d_X8_innerOf_1 4 rfl 11 (by decide) rfl h (fun h => ?_) (fun h => ?_)
  · refine z_sub [] rfl ?_
    exact hk_3  h
  · refine z_iload_n cx d_X8_innerOf_4 5 rfl rfl 1 rfl ?_
    refine y_sipush cx d_X8_innerOf_5 8 rfl (by decide) ?_
    refine y_icmp_lt cx d_X8_innerOf_8 11 rfl 15 (by decide) rfl (nm_eq (x := 1024) (by decide) (by decide)) h (fun h => ?_) (fun h => ?_)
    · refine z_aload_n cx d_X8_innerOf_15 16 rfl rfl 0 rfl ?_
      refine z_get cx d_X8_innerOf_16 19 rfl e_PS rfl zX8 1 (by decide) q_307 rfl rfl ?_
      refine z_iload_n cx d_X8_innerOf_19 20 rfl rfl 1 rfl ?_
      refine y_ialdx cx d_X8_innerOf_20 21 rfl e_PS_inner (by decide) h (fun x_4 h => ?_)
      refine z_sub [] rfl ?_
      exact hk_2 _ h
    · refine z_sub [] rfl ?_
      exact hk_3  h
def zrPa_mostInside : Room := { frames := 1, cells := 0, slots := 0, locals := 40 }
set_option maxHeartbeats 4000000 in
theorem tPa_mostInside {l : Launch} {g : ZG} {X : ZB} {N : ZB} {T : ZB} {Rd : ZB} {Fr : ZB} {Ac : ZA} {Ch : ZB} {PS : ZB} {Ly : ZB} {Pa : ZQ} {OT : ZB} {Ea : ZB} {Ga : ZB} {Im0 : ZO} {Im1 : ZO} {La : ZB} {a1 : Int} {r : Int} (h : fPa_mostInside PS Pa a1 = some r) : zMi l yX7_mostInside cX7_mostInside 6 (some .int) zrPa_mostInside g [.ref (g.2.2 79), .int (zI a1)] (wX g X N T Rd Fr Ac Ch PS Ly Pa OT Ea Ga Im0 Im1 La) (wX g X N T Rd Fr Ac Ch PS Ly Pa OT Ea Ga Im0 Im1 La) (zI r) := by
  unfold fPa_mostInside at h
  refine zMi_q (own := RX7) rfl (by decide +kernel) (Nat.le_of_ble_eq_true rfl) (lv := [(0, .ref (g.2.2 79)), (1, .int (zI a1))]) rfl ⟨rfl, rfl⟩ ?_
  intro p e s m args below meth c A Q hQ cx
  refine z_iload_n cx d_X7_mostInside_0 1 rfl rfl 1 rfl ?_
  refine z_iload_n cx d_X7_mostInside_1 2 rfl rfl 1 rfl ?_
  refine y_ineg cx d_X7_mostInside_2 3 rfl ?_
  refine y_iand cx d_X7_mostInside_3 4 rfl ?_
  refine y_istore_n_b cx d_X7_mostInside_4 5 rfl rfl (by decide) (fun y => [(2, .int (zI y)), (0, .ref (g.2.2 79)), (1, .int (zI a1))]) (fun y => rfl) h (fun v2_1 h => ?_)
  refine z_iload_n cx d_X7_mostInside_5 6 rfl rfl 2 rfl ?_
  refine z_iload_n cx d_X7_mostInside_6 7 rfl rfl 0 rfl ?_
  refine y_ixor cx d_X7_mostInside_7 8 rfl ?_
  refine y_istore_n_b cx d_X7_mostInside_8 9 rfl rfl (by decide) (fun y => [(3, .int (zI y)), (2, .int (zI v2_1)), (0, .ref (g.2.2 79)), (1, .int (zI a1))]) (fun y => rfl) h (fun v3_2 h => ?_)
  refine y_iconst cx d_X7_mostInside_9 10 rfl ?_
  refine y_istore cx d_X7_mostInside_10 12 rfl (by decide) (lv' := [(4, .int (zI (-1))), (3, .int (zI v3_2)), (2, .int (zI v2_1)), (0, .ref (g.2.2 79)), (1, .int (zI a1))]) rfl ?_
  refine z_iload_n cx d_X7_mostInside_12 13 rfl rfl 1 rfl ?_
  refine y_istore cx d_X7_mostInside_13 15 rfl (by decide) (lv' := [(5, .int (zI v3_2)), (4, .int (zI (-1))), (3, .int (zI v3_2)), (2, .int (zI v2_1)), (0, .ref (g.2.2 79)), (1, .int (zI a1))]) rfl ?_
  refine z_sub [4, 5, 2, 1, 0] rfl ?_
  refine lop2_f (P := fun (v4_3 : Int) (v5_4 : Int) => V p l e zrPa_mostInside s m args below meth c A s.heap g 6 Q (wX g X N T Rd Fr Ac Ch PS Ly Pa OT Ea Ga Im0 Im1 La) 0 0 [(0, .ref (g.2.2 79)), (1, .int (zI a1)), (3, .int (zI v3_2)), (4, .int (zI v4_3)), (5, .int (zI v5_4))] 15 []) (fun rec_5 hrec_5 v4_3 v5_4 h => ?_) _ _ _ h
  refine z_iload cx d_X7_mostInside_15 17 rfl 4 rfl ?_
  refine y_if_le cx d_X7_mostInside_17 20 rfl 68 (by decide) rfl h (fun h => ?_) (fun h => ?_)
  · refine z_iload cx d_X7_mostInside_68 70 rfl 3 rfl ?_
    subst hQ
    obtain rfl := Option.some.inj h
    exact z_iret cx d_X7_mostInside_70 rfl rfl
  · refine z_aload_n cx d_X7_mostInside_20 21 rfl rfl 0 rfl ?_
    refine z_get cx d_X7_mostInside_21 24 rfl e_Pa rfl zX7 2 (by decide) q_361 rfl rfl ?_
    refine z_iload cx d_X7_mostInside_24 26 rfl 4 rfl ?_
    refine y_ialdx cx d_X7_mostInside_26 27 rfl e_Pa_inside (by decide) h (fun x_6 h => ?_)
    refine y_iconst cx d_X7_mostInside_27 28 rfl ?_
    refine kf1_f (P := fun (v4_7 : Int) => V p l e zrPa_mostInside s m args below meth c A s.heap g 6 Q (wX g X N T Rd Fr Ac Ch PS Ly Pa OT Ea Ga Im0 Im1 La) 0 0 [(0, .ref (g.2.2 79)), (1, .int (zI a1)), (3, .int (zI v3_2)), (4, .int (zI v4_7)), (5, .int (zI v5_4))] 57 []) h (fun v4_7 h => ?_) (fun k_8 hk_8 h => ?_)
    · refine z_iload cx d_X7_mostInside_57 59 rfl 4 rfl ?_
      refine y_iconst cx d_X7_mostInside_59 60 rfl ?_
      refine y_isub cx d_X7_mostInside_60 61 rfl ?_
      refine z_iload_n cx d_X7_mostInside_61 62 rfl rfl 2 rfl ?_
      refine y_iand cx d_X7_mostInside_62 63 rfl ?_
      refine y_istore_b cx d_X7_mostInside_63 65 rfl (by decide) (fun y => [(5, .int (zI y)), (0, .ref (g.2.2 79)), (1, .int (zI a1)), (3, .int (zI v3_2)), (4, .int (zI v4_7))]) (fun y => rfl) h (fun v5_9 h => ?_)
      refine z_goto cx d_X7_mostInside_65 15 (by decide) ?_
      refine z_sub [1, 2, 3, 4, 0] rfl ?_
      exact hrec_5 _ _ h
    refine y_icmp_eq cx d_X7_mostInside_28 31 rfl 57 (by decide) rfl (nm_eq (x := (-1)) (by decide) (by decide)) h (fun h => ?_) (fun h => ?_)
    · exact hk_8 _ h
    · refine z_iload cx d_X7_mostInside_31 33 rfl 3 rfl ?_
      refine z_aload_n cx d_X7_mostInside_33 34 rfl rfl 0 rfl ?_
      refine z_get cx d_X7_mostInside_34 37 rfl e_Pa rfl zX7 2 (by decide) q_361 rfl rfl ?_
      refine z_iload cx d_X7_mostInside_37 39 rfl 4 rfl ?_
      refine y_ialdx cx d_X7_mostInside_39 40 rfl e_Pa_inside (by decide) h (fun x_10 h => ?_)
      refine z_aload_n cx d_X7_mostInside_40 41 rfl rfl 0 rfl ?_
      refine z_get cx d_X7_mostInside_41 44 rfl e_Pa rfl zX7 1 (by decide) q_360 rfl rfl ?_
      refine z_iload_n cx d_X7_mostInside_44 45 rfl rfl 1 rfl ?_
      refine z_iload cx d_X7_mostInside_45 47 rfl 4 rfl ?_
      refine y_ixor cx d_X7_mostInside_47 48 rfl ?_
      refine y_callV_i (As := [.int (zI (zxor a1 v5_4))]) (rest := [.int (zI x_10), .int (zI v4_3)]) (W := fun u_11 => wX g X N T Rd Fr Ac Ch PS Ly Pa OT Ea Ga Im0 Im1 La) (rf := fun u_11 => zI u_11) (rm := zr0) cx (fun _ hq => tPS_innerOf hq) d_X7_mostInside_48 51 rfl kk_X8_innerOf q_993 q_994 q_995 rfl e_PS rfl ⟨rfl, rfl⟩ ⟨Nat.le_of_ble_eq_true rfl, Nat.le_of_ble_eq_true rfl⟩ rfl rfl (Nat.le_of_ble_eq_true rfl) ⟨Nat.zero_le _, Nat.zero_le _⟩ h (fun u_11 h => ?_)
      refine y_iadd cx d_X7_mostInside_51 52 rfl ?_
      refine y_mmax cx d_X7_mostInside_52 55 rfl q_1001 q_945 q_43 q_946 (Nat.le_of_ble_eq_true rfl) (Nat.le_of_ble_eq_true rfl) (Nat.zero_le _) (Nat.zero_le _) ?_
      refine y_istore_b cx d_X7_mostInside_55 57 rfl (by decide) (fun y => [(4, .int (zI y)), (0, .ref (g.2.2 79)), (1, .int (zI a1)), (3, .int (zI v3_2)), (5, .int (zI v5_4))]) (fun y => rfl) h (fun v4_12 h => ?_)
      refine z_sub [1, 2, 3, 0, 4] rfl ?_
      exact hk_8 _ h
def zrPa_addPiece : Room := { frames := 2, cells := 0, slots := 0, locals := 65 }
set_option maxHeartbeats 4000000 in
theorem tPa_addPiece {l : Launch} {g : ZG} {X : ZB} {N : ZB} {T : ZB} {Rd : ZB} {Fr : ZB} {Ac : ZA} {Ch : ZB} {PS : ZB} {Ly : ZB} {Pa : ZQ} {OT : ZB} {Ea : ZB} {Ga : ZB} {Im0 : ZO} {Im1 : ZO} {La : ZB} {a1 : Int} {r : ZQ} (h : fPa_addPiece PS Pa a1 = some r) : zMv l yX7_addPiece cX7_addPiece 3 none zrPa_addPiece g [.ref (g.2.2 79), .int (zI a1)] (wX g X N T Rd Fr Ac Ch PS Ly Pa OT Ea Ga Im0 Im1 La) (wX g X N T Rd Fr Ac Ch PS Ly r OT Ea Ga Im0 Im1 La) := by
  unfold fPa_addPiece at h
  refine zMv_q (own := RX7) rfl (by decide +kernel) (Nat.le_of_ble_eq_true rfl) (lv := [(0, .ref (g.2.2 79)), (1, .int (zI a1))]) rfl ⟨rfl, rfl⟩ ?_
  intro p e s m args below meth c A Q hQ cx
  refine y_iconst cx d_X7_addPiece_0 1 rfl ?_
  refine y_istore_n cx d_X7_addPiece_1 2 rfl rfl (by decide) (lv' := [(2, .int (zI 2)), (0, .ref (g.2.2 79)), (1, .int (zI a1))]) rfl ?_
  refine z_sub [1, 2, 0] rfl ?_
  refine lop2_f (P := fun (v2_1 : Int) (Pa_2 : ZQ) => V p l e zrPa_addPiece s m args below meth c A s.heap g 3 Q (wX g X N T Rd Fr Ac Ch PS Ly Pa_2 OT Ea Ga Im0 Im1 La) 0 0 [(0, .ref (g.2.2 79)), (1, .int (zI a1)), (2, .int (zI v2_1))] 2 []) (fun rec_3 hrec_3 v2_1 Pa_2 h => ?_) _ _ _ h
  refine z_iload_n cx d_X7_addPiece_2 3 rfl rfl 2 rfl ?_
  refine z_iload_n cx d_X7_addPiece_3 4 rfl rfl 1 rfl ?_
  refine y_icmp_gt cx d_X7_addPiece_4 7 rfl 24 (by decide) rfl rfl h (fun h => ?_) (fun h => ?_)
  · refine z_sub [0] rfl ?_
    refine z_aload_n cx d_X7_addPiece_24 25 rfl rfl 0 rfl ?_
    refine z_get cx d_X7_addPiece_25 28 rfl e_Pa rfl zX7 2 (by decide) q_361 rfl rfl ?_
    refine z_astore_n cx d_X7_addPiece_28 29 rfl rfl (by decide) (lv' := [(2, .ref (Pa_2.2.1)), (0, .ref (g.2.2 79))]) rfl rfl ?_
    refine z_aload_n cx d_X7_addPiece_29 30 rfl rfl 1 rfl ?_
    refine z_aload_n cx d_X7_addPiece_30 31 rfl rfl 1 rfl ?_
    refine z_get cx d_X7_addPiece_31 34 rfl e_Pa rfl zX7 3 (by decide) q_362 rfl rfl ?_
    refine z_put cx d_X7_addPiece_34 37 rfl e_Pa rfl zX7 tyX7_ok nmX7 2 (by decide) q_361 rfl rfl rfl rfl (Nat.le_of_ble_eq_true rfl) rfl ?_
    refine z_aload_n cx d_X7_addPiece_37 38 rfl rfl 1 rfl ?_
    refine z_aload_n cx d_X7_addPiece_38 39 rfl rfl 0 rfl ?_
    refine z_put (q0 := 79) (ci := 7) cx d_X7_addPiece_39 42 rfl rfl rfl zX7 tyX7_ok nmX7 3 (by decide) q_362 rfl rfl rfl rfl (Nat.le_of_ble_eq_true rfl) rfl ?_
    refine z_swap (w' := wX g X N T Rd Fr Ac Ch PS Ly ((Pa_2.1.1, ua (ua Pa_2.1.2 2 (Pa_2.1.2 3)) 3 (Pa_2.1.2 2)), Pa_2.2.2, Pa_2.2.1) OT Ea Ga Im0 Im1 La) (pre := (wX g X N T Rd Fr Ac Ch PS Ly ((Pa_2.1.1, ua (ua Pa_2.1.2 2 (Pa_2.1.2 3)) 3 (Pa_2.1.2 2)), Pa_2.2.2, Pa_2.2.1) OT Ea Ga Im0 Im1 La).take 80) (post := (wX g X N T Rd Fr Ac Ch PS Ly Pa_2 OT Ea Ga Im0 Im1 La).drop 82) rfl rfl ?_
    subst hQ
    obtain rfl := Option.some.inj h
    exact z_vret cx d_X7_addPiece_42 rfl
  · refine z_aload_n cx d_X7_addPiece_7 8 rfl rfl 0 rfl ?_
    refine z_get cx d_X7_addPiece_8 11 rfl e_Pa rfl zX7 3 (by decide) q_362 rfl rfl ?_
    refine z_iload_n cx d_X7_addPiece_11 12 rfl rfl 2 rfl ?_
    refine z_aload_n cx d_X7_addPiece_12 13 rfl rfl 0 rfl ?_
    refine z_iload_n cx d_X7_addPiece_13 14 rfl rfl 2 rfl ?_
    refine y_callV_i (As := [.int (zI v2_1)]) (rest := [.int (zI v2_1), .ref (Pa_2.2.2)]) (W := fun u_4 => wX g X N T Rd Fr Ac Ch PS Ly Pa_2 OT Ea Ga Im0 Im1 La) (rf := fun u_4 => zI u_4) (rm := zrPa_mostInside) cx (fun _ hq => tPa_mostInside hq) d_X7_addPiece_14 17 rfl kk_X7_mostInside q_997 q_999 q_24 rfl e_Pa rfl ⟨rfl, rfl⟩ ⟨Nat.le_of_ble_eq_true rfl, Nat.le_of_ble_eq_true rfl⟩ rfl rfl (Nat.le_of_ble_eq_true rfl) ⟨Nat.zero_le _, Nat.zero_le _⟩ h (fun u_4 h => ?_)
    refine y_iast cx d_X7_addPiece_17 18 rfl e_Pa_insideNext (by decide) h (fun _ h9 => s_Pa_insideNext h9) (fun Pa_5 h => ?_)
    refine y_iinc cx 2 d_X7_addPiece_18 21 rfl rfl (by decide) (lv' := [(2, .int (zI (v2_1 + 2))), (0, .ref (g.2.2 79)), (1, .int (zI a1))]) rfl ?_
    refine z_goto cx d_X7_addPiece_21 2 (by decide) ?_
    refine z_sub [1, 2, 0] rfl ?_
    exact hrec_3 _ _ h
def zrPa_findWeakest : Room := { frames := 3, cells := 0, slots := 0, locals := 87 }
set_option maxHeartbeats 4000000 in
theorem tPa_findWeakest {l : Launch} {g : ZG} {X : ZB} {N : ZB} {T : ZB} {Rd : ZB} {Fr : ZB} {Ac : ZA} {Ch : ZB} {PS : ZB} {Ly : ZB} {Pa : ZQ} {OT : ZB} {Ea : ZB} {Ga : ZB} {Im0 : ZO} {Im1 : ZO} {La : ZB}  {r : ZB × ZQ} (h : fPa_findWeakest N PS Pa = some r) : zMv l yX7_findWeakest cX7_findWeakest 5 none zrPa_findWeakest g [.ref (g.2.2 79)] (wX g X N T Rd Fr Ac Ch PS Ly Pa OT Ea Ga Im0 Im1 La) (wX g X N T Rd Fr Ac Ch r.1 Ly r.2 OT Ea Ga Im0 Im1 La) := by
  unfold fPa_findWeakest at h
  refine zMv_q (own := RX7) rfl (by decide +kernel) (Nat.le_of_ble_eq_true rfl) (lv := [(0, .ref (g.2.2 79))]) rfl ⟨rfl, rfl⟩ ?_
  intro p e s m args below meth c A Q hQ cx
  refine z_aload_n cx d_X7_findWeakest_0 1 rfl rfl 0 rfl ?_
  refine z_get cx d_X7_findWeakest_1 4 rfl e_Pa rfl zX7 1 (by decide) q_360 rfl rfl ?_
  refine y_callV_v (As := []) (rest := []) (W := fun u_1 => wX g X N T Rd Fr Ac Ch u_1 Ly Pa OT Ea Ga Im0 Im1 La) (rm := zrPS_countInner0) cx (fun _ hq => tPS_countInner0 hq) d_X7_findWeakest_4 7 rfl kk_X8_countInner q_991 q_937 q_938 rfl e_PS rfl ⟨rfl, rfl⟩ ⟨Nat.le_of_ble_eq_true rfl, Nat.le_of_ble_eq_true rfl⟩ rfl rfl (Nat.le_of_ble_eq_true rfl) ⟨Nat.zero_le _, Nat.zero_le _⟩ h (fun u_1 h => ?_)
  refine z_aload_n cx d_X7_findWeakest_7 8 rfl rfl 0 rfl ?_
  refine z_get cx d_X7_findWeakest_8 11 rfl e_Pa rfl zX7 0 (by decide) q_359 rfl rfl ?_
  refine y_callV_i (As := []) (rest := []) (W := fun u_2 => wX g X N T Rd Fr Ac Ch u_1 Ly Pa OT Ea Ga Im0 Im1 La) (rf := fun u_2 => zI u_2) (rm := zr0) cx (fun _ hq => tN_allPoints hq) d_X7_findWeakest_11 14 rfl kk_X5_allPoints q_992 q_584 q_585 rfl e_N rfl ⟨rfl, rfl⟩ ⟨Nat.le_of_ble_eq_true rfl, Nat.le_of_ble_eq_true rfl⟩ rfl rfl (Nat.le_of_ble_eq_true rfl) ⟨Nat.zero_le _, Nat.zero_le _⟩ h (fun u_2 h => ?_)
  refine y_istore_n cx d_X7_findWeakest_14 15 rfl rfl (by decide) (lv' := [(1, .int (zI u_2)), (0, .ref (g.2.2 79))]) rfl ?_
  refine z_aload_n cx d_X7_findWeakest_15 16 rfl rfl 1 rfl ?_
  refine z_get cx d_X7_findWeakest_16 19 rfl e_Pa rfl zX7 1 (by decide) q_360 rfl rfl ?_
  refine z_iload_n cx d_X7_findWeakest_19 20 rfl rfl 0 rfl ?_
  refine y_callV_i (As := [.int (zI u_2)]) (rest := []) (W := fun u_3 => wX g X N T Rd Fr Ac Ch u_1 Ly Pa OT Ea Ga Im0 Im1 La) (rf := fun u_3 => zI u_3) (rm := zr0) cx (fun _ hq => tPS_innerOf hq) d_X7_findWeakest_20 23 rfl kk_X8_innerOf q_993 q_994 q_995 rfl e_PS rfl ⟨rfl, rfl⟩ ⟨Nat.le_of_ble_eq_true rfl, Nat.le_of_ble_eq_true rfl⟩ rfl rfl (Nat.le_of_ble_eq_true rfl) ⟨Nat.zero_le _, Nat.zero_le _⟩ h (fun u_3 h => ?_)
  refine y_istore_n cx d_X7_findWeakest_23 24 rfl rfl (by decide) (lv' := [(2, .int (zI u_3)), (1, .int (zI u_2)), (0, .ref (g.2.2 79))]) rfl ?_
  refine y_iconst cx d_X7_findWeakest_24 25 rfl ?_
  refine y_istore_n cx d_X7_findWeakest_25 26 rfl rfl (by decide) (lv' := [(3, .int (zI 2)), (2, .int (zI u_3)), (1, .int (zI u_2)), (0, .ref (g.2.2 79))]) rfl ?_
  refine z_sub [3, 2, 1, 0] rfl ?_
  refine lop2_f (P := fun (v3_4 : Int) (Pa_5 : ZQ) => V p l e zrPa_findWeakest s m args below meth c A s.heap g 5 Q (wX g X N T Rd Fr Ac Ch u_1 Ly Pa_5 OT Ea Ga Im0 Im1 La) 0 0 [(0, .ref (g.2.2 79)), (1, .int (zI u_2)), (2, .int (zI u_3)), (3, .int (zI v3_4))] 26 []) (fun rec_6 hrec_6 v3_4 Pa_5 h => ?_) _ _ _ h
  refine z_iload_n cx d_X7_findWeakest_26 27 rfl rfl 3 rfl ?_
  refine z_iload_n cx d_X7_findWeakest_27 28 rfl rfl 1 rfl ?_
  refine y_icmp_gt cx d_X7_findWeakest_28 31 rfl 51 (by decide) rfl rfl h (fun h => ?_) (fun h => ?_)
  · refine z_aload_n cx d_X7_findWeakest_51 52 rfl rfl 0 rfl ?_
    refine y_iconst cx d_X7_findWeakest_52 53 rfl ?_
    refine y_put cx d_X7_findWeakest_53 56 rfl e_Pa rfl zX7 tyX7_ok nmX7 5 (by decide) q_364 rfl rfl rfl rfl (Nat.le_of_ble_eq_true rfl) h (fun _ h9 => s_Pa_5 h9) (fun Pa_7 h => ?_)
    refine y_iconst cx d_X7_findWeakest_56 57 rfl ?_
    refine y_istore_n cx d_X7_findWeakest_57 58 rfl rfl (by decide) (lv' := [(3, .int (zI 2)), (0, .ref (g.2.2 79)), (1, .int (zI u_2)), (2, .int (zI u_3))]) rfl ?_
    refine z_sub [1, 2, 3, 0] rfl ?_
    refine lop2_f (P := fun (v3_8 : Int) (Pa_9 : ZQ) => V p l e zrPa_findWeakest s m args below meth c A s.heap g 5 Q (wX g X N T Rd Fr Ac Ch u_1 Ly Pa_9 OT Ea Ga Im0 Im1 La) 0 0 [(0, .ref (g.2.2 79)), (1, .int (zI u_2)), (2, .int (zI u_3)), (3, .int (zI v3_8))] 58 []) (fun rec_10 hrec_10 v3_8 Pa_9 h => ?_) _ _ _ h
    refine z_iload_n cx d_X7_findWeakest_58 59 rfl rfl 3 rfl ?_
    refine z_aload_n cx d_X7_findWeakest_59 60 rfl rfl 0 rfl ?_
    refine z_get cx d_X7_findWeakest_60 63 rfl e_Pa rfl zX7 0 (by decide) q_359 rfl rfl ?_
    refine z_get cx d_X7_findWeakest_63 66 rfl e_N rfl zX5 4 (by decide) q_79 rfl rfl ?_
    refine y_icmp_gt cx d_X7_findWeakest_66 69 rfl 127 (by decide) rfl rfl h (fun h => ?_) (fun h => ?_)
    · subst hQ
      obtain rfl := Option.some.inj h
      exact z_vret cx d_X7_findWeakest_127 rfl
    · refine z_iload_n cx d_X7_findWeakest_69 70 rfl rfl 2 rfl ?_
      refine z_aload_n cx d_X7_findWeakest_70 71 rfl rfl 0 rfl ?_
      refine z_iload_n cx d_X7_findWeakest_71 72 rfl rfl 1 rfl ?_
      refine y_callV_i (As := [.int (zI u_2)]) (rest := [.int (zI u_3)]) (W := fun u_11 => wX g X N T Rd Fr Ac Ch u_1 Ly Pa_9 OT Ea Ga Im0 Im1 La) (rf := fun u_11 => zI u_11) (rm := zrPa_mostInside) cx (fun _ hq => tPa_mostInside hq) d_X7_findWeakest_72 75 rfl kk_X7_mostInside q_997 q_999 q_24 rfl e_Pa rfl ⟨rfl, rfl⟩ ⟨Nat.le_of_ble_eq_true rfl, Nat.le_of_ble_eq_true rfl⟩ rfl rfl (Nat.le_of_ble_eq_true rfl) ⟨Nat.zero_le _, Nat.zero_le _⟩ h (fun u_11 h => ?_)
      refine y_isub cx d_X7_findWeakest_75 76 rfl ?_
      refine y_istore_b cx d_X7_findWeakest_76 78 rfl (by decide) (fun y => [(4, .int (zI y)), (0, .ref (g.2.2 79)), (1, .int (zI u_2)), (2, .int (zI u_3)), (3, .int (zI v3_8))]) (fun y => rfl) h (fun v4_12 h => ?_)
      refine z_aload_n cx d_X7_findWeakest_78 79 rfl rfl 1 rfl ?_
      refine z_get cx d_X7_findWeakest_79 82 rfl e_Pa rfl zX7 5 (by decide) q_364 rfl rfl ?_
      refine kf1_f (P := fun (Pa_13 : ZQ) => V p l e zrPa_findWeakest s m args below meth c A s.heap g 5 Q (wX g X N T Rd Fr Ac Ch u_1 Ly Pa_13 OT Ea Ga Im0 Im1 La) 0 0 [(0, .ref (g.2.2 79)), (1, .int (zI u_2)), (2, .int (zI u_3)), (3, .int (zI v3_8))] 116 []) h (fun Pa_13 h => ?_) (fun k_14 hk_14 h => ?_)
      · refine z_aload_n cx d_X7_findWeakest_116 117 rfl rfl 0 rfl ?_
        refine z_iload_n cx d_X7_findWeakest_117 118 rfl rfl 1 rfl ?_
        refine y_callV_v (As := [.int (zI u_2)]) (rest := []) (W := fun u_15 => wX g X N T Rd Fr Ac Ch u_1 Ly u_15 OT Ea Ga Im0 Im1 La) (rm := zrPa_addPiece) cx (fun _ hq => tPa_addPiece hq) d_X7_findWeakest_118 121 rfl kk_X7_addPiece q_1002 q_1004 q_25 rfl e_Pa rfl ⟨rfl, rfl⟩ ⟨Nat.le_of_ble_eq_true rfl, Nat.le_of_ble_eq_true rfl⟩ rfl rfl (Nat.le_of_ble_eq_true rfl) ⟨Nat.zero_le _, Nat.zero_le _⟩ h (fun u_15 h => ?_)
        refine y_iinc cx 3 d_X7_findWeakest_121 124 rfl rfl (by decide) (lv' := [(3, .int (zI (v3_8 + 1))), (0, .ref (g.2.2 79)), (1, .int (zI u_2)), (2, .int (zI u_3))]) rfl ?_
        refine z_goto cx d_X7_findWeakest_124 58 (by decide) ?_
        refine z_sub [1, 2, 3, 0] rfl ?_
        exact hrec_10 _ _ h
      refine kf0_f (P := V p l e zrPa_findWeakest s m args below meth c A s.heap g 5 Q (wX g X N T Rd Fr Ac Ch u_1 Ly Pa_9 OT Ea Ga Im0 Im1 La) 0 0 [(0, .ref (g.2.2 79)), (1, .int (zI u_2)), (2, .int (zI u_3)), (3, .int (zI v3_8)), (4, .int (zI v4_12))] 105 []) h (fun h => ?_) (fun k_16 hk_16 h => ?_)
      · refine z_aload_n cx d_X7_findWeakest_105 106 rfl rfl 0 rfl ?_
        refine z_iload cx d_X7_findWeakest_106 108 rfl 4 rfl ?_
        refine y_put cx d_X7_findWeakest_108 111 rfl e_Pa rfl zX7 tyX7_ok nmX7 4 (by decide) q_363 rfl rfl rfl rfl (Nat.le_of_ble_eq_true rfl) h (fun _ h9 => s_Pa_4 h9) (fun Pa_17 h => ?_)
        refine z_aload_n cx d_X7_findWeakest_111 112 rfl rfl 0 rfl ?_
        refine z_iload_n cx d_X7_findWeakest_112 113 rfl rfl 3 rfl ?_
        refine y_put cx d_X7_findWeakest_113 116 rfl e_Pa rfl zX7 tyX7_ok nmX7 5 (by decide) q_364 rfl rfl rfl rfl (Nat.le_of_ble_eq_true rfl) h (fun _ h9 => s_Pa_5 h9) (fun Pa_18 h => ?_)
        refine z_sub [0, 1, 2, 3] rfl ?_
        exact hk_14 _ h
      refine y_if_eq cx d_X7_findWeakest_82 85 rfl 105 (by decide) rfl h (fun h => ?_) (fun h => ?_)
      · refine z_sub [1, 2, 3, 4, 0] rfl ?_
        exact hk_16  h
      · refine z_iload cx d_X7_findWeakest_85 87 rfl 0 rfl ?_
        refine z_aload_n cx d_X7_findWeakest_87 88 rfl rfl 1 rfl ?_
        refine z_get cx d_X7_findWeakest_88 91 rfl e_Pa rfl zX7 5 (by decide) q_364 rfl rfl ?_
        refine y_iconst cx d_X7_findWeakest_91 92 rfl ?_
        refine y_isub cx d_X7_findWeakest_92 93 rfl ?_
        refine y_imul cx d_X7_findWeakest_93 94 rfl ?_
        refine z_aload_n cx d_X7_findWeakest_94 95 rfl rfl 1 rfl ?_
        refine z_get cx d_X7_findWeakest_95 98 rfl e_Pa rfl zX7 4 (by decide) q_363 rfl rfl ?_
        refine z_iload_n cx d_X7_findWeakest_98 99 rfl rfl 4 rfl ?_
        refine y_iconst cx d_X7_findWeakest_99 100 rfl ?_
        refine y_isub cx d_X7_findWeakest_100 101 rfl ?_
        refine y_imul cx d_X7_findWeakest_101 102 rfl ?_
        refine y_icmp_ge cx d_X7_findWeakest_102 105 rfl 116 (by decide) rfl rfl h (fun h => ?_) (fun h => ?_)
        · refine z_sub [1, 2, 3, 4] rfl ?_
          exact hk_14 _ h
        · refine z_sub [1, 2, 3, 4, 0] rfl ?_
          exact hk_16  h
  · refine z_aload_n cx d_X7_findWeakest_31 32 rfl rfl 0 rfl ?_
    refine z_get cx d_X7_findWeakest_32 35 rfl e_Pa rfl zX7 2 (by decide) q_361 rfl rfl ?_
    refine z_iload_n cx d_X7_findWeakest_35 36 rfl rfl 3 rfl ?_
    refine z_aload_n cx d_X7_findWeakest_36 37 rfl rfl 0 rfl ?_
    refine z_get cx d_X7_findWeakest_37 40 rfl e_Pa rfl zX7 1 (by decide) q_360 rfl rfl ?_
    refine z_iload_n cx d_X7_findWeakest_40 41 rfl rfl 3 rfl ?_
    refine y_callV_i (As := [.int (zI v3_4)]) (rest := [.int (zI v3_4), .ref (Pa_5.2.1)]) (W := fun u_19 => wX g X N T Rd Fr Ac Ch u_1 Ly Pa_5 OT Ea Ga Im0 Im1 La) (rf := fun u_19 => zI u_19) (rm := zr0) cx (fun _ hq => tPS_innerOf hq) d_X7_findWeakest_41 44 rfl kk_X8_innerOf q_993 q_994 q_995 rfl e_PS rfl ⟨rfl, rfl⟩ ⟨Nat.le_of_ble_eq_true rfl, Nat.le_of_ble_eq_true rfl⟩ rfl rfl (Nat.le_of_ble_eq_true rfl) ⟨Nat.zero_le _, Nat.zero_le _⟩ h (fun u_19 h => ?_)
    refine y_iast cx d_X7_findWeakest_44 45 rfl e_Pa_inside (by decide) h (fun _ h9 => s_Pa_inside h9) (fun Pa_20 h => ?_)
    refine y_iinc cx 3 d_X7_findWeakest_45 48 rfl rfl (by decide) (lv' := [(3, .int (zI (v3_4 + 2))), (0, .ref (g.2.2 79)), (1, .int (zI u_2)), (2, .int (zI u_3))]) rfl ?_
    refine z_goto cx d_X7_findWeakest_48 26 (by decide) ?_
    refine z_sub [1, 2, 3, 0] rfl ?_
    exact hrec_6 _ _ h
set_option maxHeartbeats 4000000 in
theorem tPa_above {l : Launch} {g : ZG} {X : ZB} {N : ZB} {T : ZB} {Rd : ZB} {Fr : ZB} {Ac : ZA} {Ch : ZB} {PS : ZB} {Ly : ZB} {Pa : ZQ} {OT : ZB} {Ea : ZB} {Ga : ZB} {Im0 : ZO} {Im1 : ZO} {La : ZB}  {r : Int} (h : fPa_above Pa = some r) : zMi l yX7_above cX7_above 1 (some .int) zr0 g [.ref (g.2.2 79)] (wX g X N T Rd Fr Ac Ch PS Ly Pa OT Ea Ga Im0 Im1 La) (wX g X N T Rd Fr Ac Ch PS Ly Pa OT Ea Ga Im0 Im1 La) (zI r) := by
  unfold fPa_above at h
  refine zMi_q (own := RX7) rfl (by decide +kernel) (Nat.le_of_ble_eq_true rfl) (lv := [(0, .ref (g.2.2 79))]) rfl ⟨rfl, rfl⟩ ?_
  intro p e s m args below meth c A Q hQ cx
  refine z_aload_n cx d_X7_above_0 1 rfl rfl 0 rfl ?_
  refine z_get cx d_X7_above_1 4 rfl e_Pa rfl zX7 4 (by decide) q_363 rfl rfl ?_
  subst hQ
  obtain rfl := Option.some.inj h
  exact z_iret cx d_X7_above_4 rfl rfl
set_option maxHeartbeats 4000000 in
theorem tPa_pieces {l : Launch} {g : ZG} {X : ZB} {N : ZB} {T : ZB} {Rd : ZB} {Fr : ZB} {Ac : ZA} {Ch : ZB} {PS : ZB} {Ly : ZB} {Pa : ZQ} {OT : ZB} {Ea : ZB} {Ga : ZB} {Im0 : ZO} {Im1 : ZO} {La : ZB}  {r : Int} (h : fPa_pieces Pa = some r) : zMi l yX7_pieces cX7_pieces 1 (some .int) zr0 g [.ref (g.2.2 79)] (wX g X N T Rd Fr Ac Ch PS Ly Pa OT Ea Ga Im0 Im1 La) (wX g X N T Rd Fr Ac Ch PS Ly Pa OT Ea Ga Im0 Im1 La) (zI r) := by
  unfold fPa_pieces at h
  refine zMi_q (own := RX7) rfl (by decide +kernel) (Nat.le_of_ble_eq_true rfl) (lv := [(0, .ref (g.2.2 79))]) rfl ⟨rfl, rfl⟩ ?_
  intro p e s m args below meth c A Q hQ cx
  refine z_aload_n cx d_X7_pieces_0 1 rfl rfl 0 rfl ?_
  refine z_get cx d_X7_pieces_1 4 rfl e_Pa rfl zX7 5 (by decide) q_364 rfl rfl ?_
  subst hQ
  obtain rfl := Option.some.inj h
  exact z_iret cx d_X7_pieces_4 rfl rfl
