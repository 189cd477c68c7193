-- needs: 18.xzlaw
set_option maxHeartbeats 40000000 in
theorem tL_draw {l : Launch} {g : ZG} {X : ZB} {N : ZB} {T : ZB} {Rd : ZB} {Fr : ZB} {Ac : ZA} {Ch : ZB} {PS : ZB} {Ly : ZB} {Pa : ZQ} {OT : ZB} {Ea : ZB} {Ga : ZB} {Im0 : ZO} {Im1 : ZO} {La : ZB} {a2 : Int} {r : Int × ZB} (h : fL_draw La a2 = some r) : zMi l yL_draw cL_draw 2 (some .int) zr0 g [.ref (g.2.2 93), .int (zI a2)] (wX g X N T Rd Fr Ac Ch PS Ly Pa OT Ea Ga Im0 Im1 La) (wX g X N T Rd Fr Ac Ch PS Ly Pa OT Ea Ga Im0 Im1 r.2) (zI r.1) := by
  unfold fL_draw at h
  refine zMi_q (own := RL) rfl (by decide +kernel) (Nat.le_of_ble_eq_true rfl) (lv := [(0, .ref (g.2.2 93)), (1, .int (zI a2))]) rfl ⟨rfl, rfl⟩ ?_
  intro p e s m args below meth c A Q hQ cx
  refine z_aload_n cx d_L_draw_0 1 rfl rfl 0 rfl ?_
  refine y_iconst cx d_L_draw_1 2 rfl ?_
  refine z_aload_n cx d_L_draw_2 3 rfl rfl 0 rfl ?_
  refine y_iconst cx d_L_draw_3 4 rfl ?_
  refine y_ialdx cx d_L_draw_4 5 rfl e_La_h (by decide) h (fun x_1 h => ?_)
  refine y_ldc cx 1103515245 d_L_draw_5 7 rfl q_692 ?_
  refine y_imul cx d_L_draw_7 8 rfl ?_
  refine y_sipush cx d_L_draw_8 11 rfl (by decide) ?_
  refine y_iadd cx d_L_draw_11 12 rfl ?_
  refine y_iast cx d_L_draw_12 13 rfl e_La_h (by decide) h (fun _ h9 => s_La_h h9) (fun La_2 h => ?_)
  refine z_aload_n cx d_L_draw_13 14 rfl rfl 0 rfl ?_
  refine y_iconst cx d_L_draw_14 15 rfl ?_
  refine y_ialdx cx d_L_draw_15 16 rfl e_La_h (by decide) h (fun x_3 h => ?_)
  refine y_bipush cx d_L_draw_16 18 rfl (by decide) ?_
  refine y_iushr cx d_L_draw_18 19 rfl ?_
  refine z_iload_n cx d_L_draw_19 20 rfl rfl 1 rfl ?_
  refine y_irem cx d_L_draw_20 21 rfl h (fun h => ?_)
  subst hQ
  obtain rfl := Option.some.inj h
  exact z_iret cx d_L_draw_21 rfl rfl
def zrL_number : Room := { frames := 1, cells := 0, slots := 0, locals := 23 }
set_option maxHeartbeats 40000000 in
theorem tL_number {l : Launch} {g : ZG} {X : ZB} {N : ZB} {T : ZB} {Rd : ZB} {Fr : ZB} {Ac : ZA} {Ch : ZB} {PS : ZB} {Ly : ZB} {Pa : ZQ} {OT : ZB} {Ea : ZB} {Ga : ZB} {Im0 : ZO} {Im1 : ZO} {La : ZB} {a2 : Int} {a3 : Int} {r : Int × ZB} (h : fL_number La a2 a3 = some r) : zMi l yL_number cL_number 4 (some .int) zrL_number g [.ref (g.2.2 91), .int (zI a2), .int (zI a3)] (wX g X N T Rd Fr Ac Ch PS Ly Pa OT Ea Ga Im0 Im1 La) (wX g X N T Rd Fr Ac Ch PS Ly Pa OT Ea Ga Im0 Im1 r.2) (zI r.1) := by
  unfold fL_number at h
  refine zMi_q (own := RL) rfl (by decide +kernel) (Nat.le_of_ble_eq_true rfl) (lv := [(0, .ref (g.2.2 91)), (1, .int (zI a2)), (2, .int (zI a3))]) rfl ⟨rfl, rfl⟩ ?_
  intro p e s m args below meth c A Q hQ cx
  refine z_iload_n cx d_L_number_0 1 rfl rfl 1 rfl ?_
  refine y_istore_n cx d_L_number_1 2 rfl rfl (by decide) (lv' := [(3, .int (zI a2)), (0, .ref (g.2.2 91)), (1, .int (zI a2)), (2, .int (zI a3))]) rfl ?_
  refine z_iload_n cx d_L_number_2 3 rfl rfl 3 rfl ?_
  refine y_bipush cx d_L_number_3 5 rfl (by decide) ?_
  refine kf2_f (P := fun (v3_1 : Int) (La_2 : ZB) => V p l e zrL_number s m args below meth c A s.heap g 4 Q (wX g X N T Rd Fr Ac Ch PS Ly Pa OT Ea Ga Im0 Im1 La_2) 0 0 [(0, .ref (g.2.2 91)), (2, .int (zI a3)), (3, .int (zI v3_1))] 24 []) h (fun v3_1 La_2 h => ?_) (fun k_3 hk_3 h => ?_)
  · refine z_aload_n cx d_L_number_24 25 rfl rfl 0 rfl ?_
    refine z_iload_n cx d_L_number_25 26 rfl rfl 2 rfl ?_
    refine y_bipush cx d_L_number_26 28 rfl (by decide) ?_
    refine z_iload_n cx d_L_number_28 29 rfl rfl 1 rfl ?_
    refine y_bipush cx d_L_number_29 31 rfl (by decide) ?_
    refine y_irem cx d_L_number_31 32 rfl h (fun h => ?_)
    refine y_iadd cx d_L_number_32 33 rfl ?_
    refine y_callS_i (As := [.ref (g.2.2 91), .int (zI v3_1), .int (zI (48 + (zrem a3 10)))]) (rest := []) (W := fun u_4 => wX g X N T Rd Fr Ac Ch PS Ly Pa OT Ea Ga Im0 Im1 u_4.2) (rf := fun u_4 => zI u_4.1) (rm := zr0) cx (fun _ hq => tL_put hq) d_L_number_33 36 rfl kk_L_put q_699 q_700 ⟨rfl, rfl⟩ ⟨Nat.le_of_ble_eq_true rfl, Nat.le_of_ble_eq_true rfl⟩ rfl rfl (Nat.le_of_ble_eq_true rfl) ⟨Nat.zero_le _, Nat.zero_le _⟩ h (fun u_4 h => ?_)
    subst hQ
    obtain rfl := Option.some.inj h
    exact z_iret cx d_L_number_36 rfl rfl
  refine y_icmp_le cx d_L_number_5 8 rfl 24 (by decide) rfl (nm_eq (x := 9) (by decide) (by decide)) h (fun h => ?_) (fun h => ?_)
  · refine z_sub [1, 3, 0] rfl ?_
    exact hk_3 _ _ h
  · refine z_aload_n cx d_L_number_8 9 rfl rfl 1 rfl ?_
    refine z_iload_n cx d_L_number_9 10 rfl rfl 0 rfl ?_
    refine y_bipush cx d_L_number_10 12 rfl (by decide) ?_
    refine z_iload_n cx d_L_number_12 13 rfl rfl 3 rfl ?_
    refine y_bipush cx d_L_number_13 15 rfl (by decide) ?_
    refine y_idiv cx d_L_number_15 16 rfl h (fun h => ?_)
    refine y_bipush cx d_L_number_16 18 rfl (by decide) ?_
    refine y_irem cx d_L_number_18 19 rfl h (fun h => ?_)
    refine y_iadd cx d_L_number_19 20 rfl ?_
    refine y_callS_i (As := [.ref (g.2.2 91), .int (zI a2), .int (zI (48 + (zrem (zdiv a3 10) 10)))]) (rest := []) (W := fun u_5 => wX g X N T Rd Fr Ac Ch PS Ly Pa OT Ea Ga Im0 Im1 u_5.2) (rf := fun u_5 => zI u_5.1) (rm := zr0) cx (fun _ hq => tL_put hq) d_L_number_20 23 rfl kk_L_put q_699 q_700 ⟨rfl, rfl⟩ ⟨Nat.le_of_ble_eq_true rfl, Nat.le_of_ble_eq_true rfl⟩ rfl rfl (Nat.le_of_ble_eq_true rfl) ⟨Nat.zero_le _, Nat.zero_le _⟩ h (fun u_5 h => ?_)
    refine y_istore_n cx d_L_number_23 24 rfl rfl (by decide) (lv' := [(3, .int (zI u_5.1)), (0, .ref (g.2.2 91)), (1, .int (zI a2)), (2, .int (zI a3))]) rfl ?_
    refine z_sub [1, 3, 0] rfl ?_
    exact hk_3 _ _ h
def zrL_lies : Room := { frames := 2, cells := 0, slots := 0, locals := 47 }
set_option maxHeartbeats 40000000 in
theorem tL_lies {l : Launch} {g : ZG} {X : ZB} {N : ZB} {T : ZB} {Rd : ZB} {Fr : ZB} {Ac : ZA} {Ch : ZB} {PS : ZB} {Ly : ZB} {Pa : ZQ} {OT : ZB} {Ea : ZB} {Ga : ZB} {Im0 : ZO} {Im1 : ZO} {La : ZB} {a3 : Int} {r : Int × ZB} (h : fL_lies T La a3 = some r) : zMi l yL_lies cL_lies 4 (some .boolean) zrL_lies g [.ref (g.2.2 0), .ref (g.2.2 91), .int (zI a3)] (wX g X N T Rd Fr Ac Ch PS Ly Pa OT Ea Ga Im0 Im1 La) (wX g X N r.2 Rd Fr Ac Ch PS Ly Pa OT Ea Ga Im0 Im1 La) (zI r.1) := by
  unfold fL_lies at h
  refine zMi_q (own := RL) rfl (by decide +kernel) (Nat.le_of_ble_eq_true rfl) (lv := [(0, .ref (g.2.2 0)), (1, .ref (g.2.2 91)), (2, .int (zI a3))]) rfl ⟨rfl, rfl⟩ ?_
  intro p e s m args below meth c A Q hQ cx
  refine z_aload_n cx d_L_lies_0 1 rfl rfl 0 rfl ?_
  refine y_iconst cx d_L_lies_1 2 rfl ?_
  refine y_callV_i (As := [.int (zI 0)]) (rest := []) (W := fun u_1 => wX g X N u_1.2 Rd Fr Ac Ch PS Ly Pa OT Ea Ga Im0 Im1 La) (rf := fun u_1 => zI u_1.1) (rm := zrX_end) cx (fun _ hq => tX_end hq) d_L_lies_2 5 rfl kk_X11_end q_710 q_711 q_712 rfl e_X rfl ⟨rfl, rfl⟩ ⟨Nat.le_of_ble_eq_true rfl, Nat.le_of_ble_eq_true rfl⟩ rfl rfl (Nat.le_of_ble_eq_true rfl) ⟨Nat.zero_le _, Nat.zero_le _⟩ h (fun u_1 h => ?_)
  refine y_if_ne cx d_L_lies_5 8 rfl 10 (by decide) rfl h (fun h => ?_) (fun h => ?_)
  · refine y_iconst cx d_L_lies_10 11 rfl ?_
    refine y_istore_n cx d_L_lies_11 12 rfl rfl (by decide) (lv' := [(3, .int (zI 0)), (0, .ref (g.2.2 0)), (1, .ref (g.2.2 91)), (2, .int (zI a3))]) rfl ?_
    refine z_sub [1, 2, 3, 0] rfl ?_
    refine lop2_f (P := fun (v3_2 : Int) (T_3 : ZB) => V p l e zrL_lies s m args below meth c A s.heap g 4 Q (wX g X N T_3 Rd Fr Ac Ch PS Ly Pa OT Ea Ga Im0 Im1 La) 0 0 [(0, .ref (g.2.2 0)), (1, .ref (g.2.2 91)), (2, .int (zI a3)), (3, .int (zI v3_2))] 12 []) (fun rec_4 hrec_4 v3_2 T_3 h => ?_) _ _ _ h
    refine y_iconst cx d_L_lies_12 13 rfl ?_
    refine z_iload_n cx d_L_lies_13 14 rfl rfl 3 rfl ?_
    refine y_imul cx d_L_lies_14 15 rfl ?_
    refine z_iload_n cx d_L_lies_15 16 rfl rfl 2 rfl ?_
    refine y_icmp_ge cx d_L_lies_16 19 rfl 105 (by decide) rfl rfl h (fun h => ?_) (fun h => ?_)
    · refine z_aload_n cx d_L_lies_105 106 rfl rfl 0 rfl ?_
      refine z_iload_n cx d_L_lies_106 107 rfl rfl 2 rfl ?_
      refine y_callV_i (As := [.int (zI a3)]) (rest := []) (W := fun u_5 => wX g X N u_5.2 Rd Fr Ac Ch PS Ly Pa OT Ea Ga Im0 Im1 La) (rf := fun u_5 => zI u_5.1) (rm := zrX_end) cx (fun _ hq => tX_end hq) d_L_lies_107 110 rfl kk_X11_end q_710 q_711 q_712 rfl e_X rfl ⟨rfl, rfl⟩ ⟨Nat.le_of_ble_eq_true rfl, Nat.le_of_ble_eq_true rfl⟩ rfl rfl (Nat.le_of_ble_eq_true rfl) ⟨Nat.zero_le _, Nat.zero_le _⟩ h (fun u_5 h => ?_)
      obtain ⟨hz, h⟩ := zo_i h
      subst hQ
      obtain rfl := Option.some.inj h
      exact z_zret cx d_L_lies_110 (zb01 hz) rfl rfl
    · refine z_aload_n cx d_L_lies_19 20 rfl rfl 0 rfl ?_
      refine z_aload_n cx d_L_lies_20 21 rfl rfl 1 rfl ?_
      refine z_iload_n cx d_L_lies_21 22 rfl rfl 3 rfl ?_
      refine y_ialdx cx d_L_lies_22 23 rfl e_La_t (by decide) h (fun x_6 h => ?_)
      refine z_iload_n cx d_L_lies_23 24 rfl rfl 3 rfl ?_
      refine y_iconst cx d_L_lies_24 25 rfl ?_
      refine y_iadd cx d_L_lies_25 26 rfl ?_
      refine y_bipush cx d_L_lies_26 28 rfl (by decide) ?_
      refine kf1_f (P := fun (w2_7 : Int) => V p l e zrL_lies s m args below meth c A s.heap g 4 Q (wX g X N T_3 Rd Fr Ac Ch PS Ly Pa OT Ea Ga Im0 Im1 La) 0 0 [(0, .ref (g.2.2 0)), (1, .ref (g.2.2 91)), (2, .int (zI a3)), (3, .int (zI v3_2))] 40 [.int (zI w2_7), .int (zI x_6), .ref (g.2.2 0)]) h (fun w2_7 h => ?_) (fun k_8 hk_8 h => ?_)
      · refine z_iload_n cx d_L_lies_40 41 rfl rfl 3 rfl ?_
        refine y_iconst cx d_L_lies_41 42 rfl ?_
        refine y_iadd cx d_L_lies_42 43 rfl ?_
        refine y_bipush cx d_L_lies_43 45 rfl (by decide) ?_
        refine kf2_f (P := fun (w2_9 : Int) (w3_10 : Int) => V p l e zrL_lies s m args below meth c A s.heap g 4 Q (wX g X N T_3 Rd Fr Ac Ch PS Ly Pa OT Ea Ga Im0 Im1 La) 0 0 [(0, .ref (g.2.2 0)), (1, .ref (g.2.2 91)), (2, .int (zI a3)), (3, .int (zI v3_2))] 57 [.int (zI w3_10), .int (zI w2_9), .int (zI x_6), .ref (g.2.2 0)]) h (fun w2_9 w3_10 h => ?_) (fun k_11 hk_11 h => ?_)
        · refine z_iload_n cx d_L_lies_57 58 rfl rfl 3 rfl ?_
          refine y_iconst cx d_L_lies_58 59 rfl ?_
          refine y_iadd cx d_L_lies_59 60 rfl ?_
          refine y_bipush cx d_L_lies_60 62 rfl (by decide) ?_
          refine kf3_f (P := fun (w2_12 : Int) (w3_13 : Int) (w4_14 : Int) => V p l e zrL_lies s m args below meth c A s.heap g 4 Q (wX g X N T_3 Rd Fr Ac Ch PS Ly Pa OT Ea Ga Im0 Im1 La) 0 0 [(0, .ref (g.2.2 0)), (1, .ref (g.2.2 91)), (2, .int (zI a3)), (3, .int (zI v3_2))] 74 [.int (zI w4_14), .int (zI w3_13), .int (zI w2_12), .int (zI x_6), .ref (g.2.2 0)]) h (fun w2_12 w3_13 w4_14 h => ?_) (fun k_15 hk_15 h => ?_)
          · refine z_iload_n cx d_L_lies_74 75 rfl rfl 3 rfl ?_
            refine y_iconst cx d_L_lies_75 76 rfl ?_
            refine y_iadd cx d_L_lies_76 77 rfl ?_
            refine y_bipush cx d_L_lies_77 79 rfl (by decide) ?_
            refine kf4_f (P := fun (w2_16 : Int) (w3_17 : Int) (w4_18 : Int) (w5_19 : Int) => V p l e zrL_lies s m args below meth c A s.heap g 4 Q (wX g X N T_3 Rd Fr Ac Ch PS Ly Pa OT Ea Ga Im0 Im1 La) 0 0 [(0, .ref (g.2.2 0)), (1, .ref (g.2.2 91)), (2, .int (zI a3)), (3, .int (zI v3_2))] 91 [.int (zI w5_19), .int (zI w4_18), .int (zI w3_17), .int (zI w2_16), .int (zI x_6), .ref (g.2.2 0)]) h (fun w2_16 w3_17 w4_18 w5_19 h => ?_) (fun k_20 hk_20 h => ?_)
            · refine y_callV_i (As := [.int (zI x_6), .int (zI w2_16), .int (zI w3_17), .int (zI w4_18), .int (zI w5_19)]) (rest := []) (W := fun u_21 => wX g X N u_21.2 Rd Fr Ac Ch PS Ly Pa OT Ea Ga Im0 Im1 La) (rf := fun u_21 => zI u_21.1) (rm := zrX_feed) cx (fun _ hq => tX_feed hq) d_L_lies_91 94 rfl kk_X11_feed q_722 q_723 q_724 rfl e_X rfl ⟨rfl, rfl⟩ ⟨Nat.le_of_ble_eq_true rfl, Nat.le_of_ble_eq_true rfl⟩ rfl rfl (Nat.le_of_ble_eq_true rfl) ⟨Nat.zero_le _, Nat.zero_le _⟩ h (fun u_21 h => ?_)
              refine y_if_ge cx d_L_lies_94 97 rfl 99 (by decide) rfl h (fun h => ?_) (fun h => ?_)
              · refine y_iinc cx 3 d_L_lies_99 102 rfl rfl (by decide) (lv' := [(3, .int (zI (v3_2 + 5))), (0, .ref (g.2.2 0)), (1, .ref (g.2.2 91)), (2, .int (zI a3))]) rfl ?_
                refine z_goto cx d_L_lies_102 12 (by decide) ?_
                refine z_sub [1, 2, 3, 0] rfl ?_
                exact hrec_4 _ _ h
              · refine y_iconst cx d_L_lies_97 98 rfl ?_
                subst hQ
                obtain rfl := Option.some.inj h
                exact z_zret cx d_L_lies_98 (zb01 (by decide)) rfl rfl
            refine y_icmp_ge cx d_L_lies_79 82 rfl 90 (by decide) rfl (nm_eq (x := 64) (by decide) (by decide)) h (fun h => ?_) (fun h => ?_)
            · refine y_iconst cx d_L_lies_90 91 rfl ?_
              exact hk_20 _ _ _ _ h
            · refine z_aload_n cx d_L_lies_82 83 rfl rfl 1 rfl ?_
              refine z_iload_n cx d_L_lies_83 84 rfl rfl 3 rfl ?_
              refine y_iconst cx d_L_lies_84 85 rfl ?_
              refine y_iadd cx d_L_lies_85 86 rfl ?_
              refine y_ialdx cx d_L_lies_86 87 rfl e_La_t (by decide) h (fun x_22 h => ?_)
              refine z_goto cx d_L_lies_87 91 (by decide) ?_
              exact hk_20 _ _ _ _ h
          refine y_icmp_ge cx d_L_lies_62 65 rfl 73 (by decide) rfl (nm_eq (x := 64) (by decide) (by decide)) h (fun h => ?_) (fun h => ?_)
          · refine y_iconst cx d_L_lies_73 74 rfl ?_
            exact hk_15 _ _ _ h
          · refine z_aload_n cx d_L_lies_65 66 rfl rfl 1 rfl ?_
            refine z_iload_n cx d_L_lies_66 67 rfl rfl 3 rfl ?_
            refine y_iconst cx d_L_lies_67 68 rfl ?_
            refine y_iadd cx d_L_lies_68 69 rfl ?_
            refine y_ialdx cx d_L_lies_69 70 rfl e_La_t (by decide) h (fun x_23 h => ?_)
            refine z_goto cx d_L_lies_70 74 (by decide) ?_
            exact hk_15 _ _ _ h
        refine y_icmp_ge cx d_L_lies_45 48 rfl 56 (by decide) rfl (nm_eq (x := 64) (by decide) (by decide)) h (fun h => ?_) (fun h => ?_)
        · refine y_iconst cx d_L_lies_56 57 rfl ?_
          exact hk_11 _ _ h
        · refine z_aload_n cx d_L_lies_48 49 rfl rfl 1 rfl ?_
          refine z_iload_n cx d_L_lies_49 50 rfl rfl 3 rfl ?_
          refine y_iconst cx d_L_lies_50 51 rfl ?_
          refine y_iadd cx d_L_lies_51 52 rfl ?_
          refine y_ialdx cx d_L_lies_52 53 rfl e_La_t (by decide) h (fun x_24 h => ?_)
          refine z_goto cx d_L_lies_53 57 (by decide) ?_
          exact hk_11 _ _ h
      refine y_icmp_ge cx d_L_lies_28 31 rfl 39 (by decide) rfl (nm_eq (x := 64) (by decide) (by decide)) h (fun h => ?_) (fun h => ?_)
      · refine y_iconst cx d_L_lies_39 40 rfl ?_
        exact hk_8 _ h
      · refine z_aload_n cx d_L_lies_31 32 rfl rfl 1 rfl ?_
        refine z_iload_n cx d_L_lies_32 33 rfl rfl 3 rfl ?_
        refine y_iconst cx d_L_lies_33 34 rfl ?_
        refine y_iadd cx d_L_lies_34 35 rfl ?_
        refine y_ialdx cx d_L_lies_35 36 rfl e_La_t (by decide) h (fun x_25 h => ?_)
        refine z_goto cx d_L_lies_36 40 (by decide) ?_
        exact hk_8 _ h
  · refine y_iconst cx d_L_lies_8 9 rfl ?_
    subst hQ
    obtain rfl := Option.some.inj h
    exact z_zret cx d_L_lies_9 (zb01 (by decide)) rfl rfl
