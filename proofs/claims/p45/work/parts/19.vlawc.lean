-- needs: 18.xzlaw
def zrL_sound : Room := { frames := 3, cells := 0, slots := 0, locals := 67 }
set_option maxHeartbeats 40000000 in
theorem tL_sound {l : Launch} {g : ZG} {X : ZB} {N : ZB} {T : ZB} {Rd : ZB} {Fr : ZB} {Ac : ZA} {Ch : ZB} {PS : ZB} {Ly : ZB} {Pa : ZQ} {OT : ZB} {Ea : ZB} {Ga : ZB} {Im0 : ZO} {Im1 : ZO} {La : ZB}  {r : Int} (h : fL_sound N La = some r) : zMi l yL_sound cL_sound 4 (some .int) zrL_sound g [.ref (g.2.2 0), .ref (g.2.2 92)] (wX g X N T Rd Fr Ac Ch PS Ly Pa OT Ea Ga Im0 Im1 La) (wX g X N T Rd Fr Ac Ch PS Ly Pa OT Ea Ga Im0 Im1 La) (zI r) := by
  unfold fL_sound at h
  refine zMi_q (own := RL) rfl (by decide +kernel) (Nat.le_of_ble_eq_true rfl) (lv := [(0, .ref (g.2.2 0)), (1, .ref (g.2.2 92))]) rfl ⟨rfl, rfl⟩ ?_
  intro p e s m args below meth c A Q hQ cx
  refine y_iconst cx d_L_sound_0 1 rfl ?_
  refine y_istore_n cx d_L_sound_1 2 rfl rfl (by decide) (lv' := [(2, .int (zI 0)), (0, .ref (g.2.2 0)), (1, .ref (g.2.2 92))]) rfl ?_
  refine y_iconst cx d_L_sound_2 3 rfl ?_
  refine y_istore_n cx d_L_sound_3 4 rfl rfl (by decide) (lv' := [(3, .int (zI 0)), (2, .int (zI 0)), (0, .ref (g.2.2 0)), (1, .ref (g.2.2 92))]) rfl ?_
  refine z_sub [2, 3, 1, 0] rfl ?_
  refine lop2_f (P := fun (v2_1 : Int) (v3_2 : Int) => V p l e zrL_sound s m args below meth c A s.heap g 4 Q (wX g X N T Rd Fr Ac Ch PS Ly Pa OT Ea Ga Im0 Im1 La) 0 0 [(0, .ref (g.2.2 0)), (1, .ref (g.2.2 92)), (2, .int (zI v2_1)), (3, .int (zI v3_2))] 4 []) (fun rec_3 hrec_3 v2_1 v3_2 h => ?_) _ _ _ h
  refine z_iload_n cx d_L_sound_4 5 rfl rfl 3 rfl ?_
  refine z_aload_n cx d_L_sound_5 6 rfl rfl 1 rfl ?_
  refine y_iconst cx d_L_sound_6 7 rfl ?_
  refine y_ialdx cx d_L_sound_7 8 rfl e_La_v (by decide) h (fun x_4 h => ?_)
  refine y_icmp_ge cx d_L_sound_8 11 rfl 33 (by decide) rfl rfl h (fun h => ?_) (fun h => ?_)
  · refine z_iload_n cx d_L_sound_33 34 rfl rfl 2 rfl ?_
    subst hQ
    obtain rfl := Option.some.inj h
    exact z_iret cx d_L_sound_34 rfl rfl
  · refine z_aload_n cx d_L_sound_11 12 rfl rfl 0 rfl ?_
    refine y_iconst cx d_L_sound_12 13 rfl ?_
    refine z_iload_n cx d_L_sound_13 14 rfl rfl 3 rfl ?_
    refine y_iconst cx d_L_sound_14 15 rfl ?_
    refine y_callSh (As := [.ref (g.2.2 0), .int (zI 0), .int (zI v3_2), .int (zI 4)]) (rest := []) (W := fun u_5 => wX g X N T Rd Fr Ac Ch PS Ly Pa OT Ea Ga Im0 Im1 La) (rf := fun u_5 => zI u_5) (rm := zrL_its) cx (fun _ hq => tL_its hq) d_L_sound_15 18 rfl qh_its q_26 qh_itsy q_607 q_608 ⟨rfl, rfl⟩ ⟨Nat.le_of_ble_eq_true rfl, Nat.le_of_ble_eq_true rfl⟩ rfl rfl (Nat.le_of_ble_eq_true rfl) ⟨Nat.zero_le _, Nat.zero_le _⟩ h (fun u_5 h => ?_)
    refine kf1_f (P := fun (v2_6 : Int) => V p l e zrL_sound s m args below meth c A s.heap g 4 Q (wX g X N T Rd Fr Ac Ch PS Ly Pa OT Ea Ga Im0 Im1 La) 0 0 [(0, .ref (g.2.2 0)), (1, .ref (g.2.2 92)), (2, .int (zI v2_6)), (3, .int (zI v3_2))] 27 []) h (fun v2_6 h => ?_) (fun k_7 hk_7 h => ?_)
    · refine y_iinc cx 3 d_L_sound_27 30 rfl rfl (by decide) (lv' := [(3, .int (zI (v3_2 + 1))), (0, .ref (g.2.2 0)), (1, .ref (g.2.2 92)), (2, .int (zI v2_6))]) rfl ?_
      refine z_goto cx d_L_sound_30 4 (by decide) ?_
      refine z_sub [1, 2, 3, 0] rfl ?_
      exact hrec_3 _ _ h
    refine y_if_ne cx d_L_sound_18 21 rfl 27 (by decide) rfl h (fun h => ?_) (fun h => ?_)
    · exact hk_7 _ h
    · refine z_iload_n cx d_L_sound_21 22 rfl rfl 2 rfl ?_
      refine y_iconst cx d_L_sound_22 23 rfl ?_
      refine z_iload_n cx d_L_sound_23 24 rfl rfl 3 rfl ?_
      refine y_ishl cx d_L_sound_24 25 rfl ?_
      refine y_ior cx d_L_sound_25 26 rfl ?_
      refine y_istore_n_b cx d_L_sound_26 27 rfl rfl (by decide) (fun y => [(2, .int (zI y)), (0, .ref (g.2.2 0)), (1, .ref (g.2.2 92)), (3, .int (zI v3_2))]) (fun y => rfl) h (fun v2_8 h => ?_)
      refine z_sub [1, 2, 0, 3] rfl ?_
      exact hk_7 _ h
def zrL_lying : Room := { frames := 4, cells := 0, slots := 0, locals := 92 }
set_option maxHeartbeats 40000000 in
theorem tL_lying {l : Launch} {g : ZG} {X : ZB} {N : ZB} {T : ZB} {Rd : ZB} {Fr : ZB} {Ac : ZA} {Ch : ZB} {PS : ZB} {Ly : ZB} {Pa : ZQ} {OT : ZB} {Ea : ZB} {Ga : ZB} {Im0 : ZO} {Im1 : ZO} {La : ZB}  {r : Int} (h : fL_lying N T Ac La = some r) : zMi l yL_lying cL_lying 6 (some .int) zrL_lying g [.ref (g.2.2 0), .ref (g.2.2 92)] (wX g X N T Rd Fr Ac Ch PS Ly Pa OT Ea Ga Im0 Im1 La) (wX g X N T Rd Fr Ac Ch PS Ly Pa OT Ea Ga Im0 Im1 La) (zI r) := by
  unfold fL_lying at h
  refine zMi_q (own := RL) rfl (by decide +kernel) (Nat.le_of_ble_eq_true rfl) (lv := [(0, .ref (g.2.2 0)), (1, .ref (g.2.2 92))]) rfl ⟨rfl, rfl⟩ ?_
  intro p e s m args below meth c A Q hQ cx
  refine y_iconst cx d_L_lying_0 1 rfl ?_
  refine y_istore_n cx d_L_lying_1 2 rfl rfl (by decide) (lv' := [(2, .int (zI 0)), (0, .ref (g.2.2 0)), (1, .ref (g.2.2 92))]) rfl ?_
  refine y_iconst cx d_L_lying_2 3 rfl ?_
  refine y_istore_n cx d_L_lying_3 4 rfl rfl (by decide) (lv' := [(3, .int (zI 0)), (2, .int (zI 0)), (0, .ref (g.2.2 0)), (1, .ref (g.2.2 92))]) rfl ?_
  refine z_sub [2, 3, 1, 0] rfl ?_
  refine lop2_f (P := fun (v2_1 : Int) (v3_2 : Int) => V p l e zrL_lying s m args below meth c A s.heap g 6 Q (wX g X N T Rd Fr Ac Ch PS Ly Pa OT Ea Ga Im0 Im1 La) 0 0 [(0, .ref (g.2.2 0)), (1, .ref (g.2.2 92)), (2, .int (zI v2_1)), (3, .int (zI v3_2))] 4 []) (fun rec_3 hrec_3 v2_1 v3_2 h => ?_) _ _ _ h
  refine z_iload_n cx d_L_lying_4 5 rfl rfl 3 rfl ?_
  refine z_aload_n cx d_L_lying_5 6 rfl rfl 0 rfl ?_
  refine y_iconst cx d_L_lying_6 7 rfl ?_
  refine y_callV_i (As := [.int (zI 2)]) (rest := [.int (zI v3_2)]) (W := fun u_4 => wX g X N T Rd Fr Ac Ch PS Ly Pa OT Ea Ga Im0 Im1 La) (rf := fun u_4 => zI u_4) (rm := zrX_now) cx (fun _ hq => tX_now hq) d_L_lying_7 10 rfl kk_X11_now q_834 q_835 q_836 rfl e_X rfl ⟨rfl, rfl⟩ ⟨Nat.le_of_ble_eq_true rfl, Nat.le_of_ble_eq_true rfl⟩ rfl rfl (Nat.le_of_ble_eq_true rfl) ⟨Nat.zero_le _, Nat.zero_le _⟩ h (fun u_4 h => ?_)
  refine y_icmp_ge cx d_L_lying_10 13 rfl 104 (by decide) rfl rfl h (fun h => ?_) (fun h => ?_)
  · refine z_iload_n cx d_L_lying_104 105 rfl rfl 2 rfl ?_
    refine z_aload_n cx d_L_lying_105 106 rfl rfl 0 rfl ?_
    refine z_aload_n cx d_L_lying_106 107 rfl rfl 1 rfl ?_
    refine y_callS_i (As := [.ref (g.2.2 0), .ref (g.2.2 92)]) (rest := [.int (zI v2_1)]) (W := fun u_5 => wX g X N T Rd Fr Ac Ch PS Ly Pa OT Ea Ga Im0 Im1 La) (rf := fun u_5 => zI u_5) (rm := zrL_sound) cx (fun _ hq => tL_sound hq) d_L_lying_107 110 rfl kk_L_sound q_882 q_883 ⟨rfl, rfl⟩ ⟨Nat.le_of_ble_eq_true rfl, Nat.le_of_ble_eq_true rfl⟩ rfl rfl (Nat.le_of_ble_eq_true rfl) ⟨Nat.zero_le _, Nat.zero_le _⟩ h (fun u_5 h => ?_)
    refine y_iconst cx d_L_lying_110 111 rfl ?_
    refine y_ixor cx d_L_lying_111 112 rfl ?_
    refine y_iand cx d_L_lying_112 113 rfl ?_
    refine kf1_f (P := fun (w0_6 : Int) => V p l e zrL_lying s m args below meth c A s.heap g 6 Q (wX g X N T Rd Fr Ac Ch PS Ly Pa OT Ea Ga Im0 Im1 La) 0 0 [] 133 [.int (zI w0_6)]) h (fun w0_6 h => ?_) (fun k_7 hk_7 h => ?_)
    · subst hQ
      obtain rfl := Option.some.inj h
      exact z_iret cx d_L_lying_133 rfl rfl
    refine kf0_f (P := V p l e zrL_lying s m args below meth c A s.heap g 6 Q (wX g X N T Rd Fr Ac Ch PS Ly Pa OT Ea Ga Im0 Im1 La) 0 0 [] 128 []) h (fun h => ?_) (fun k_8 hk_8 h => ?_)
    · refine y_iconst cx d_L_lying_128 129 rfl ?_
      refine z_goto cx d_L_lying_129 133 (by decide) ?_
      exact hk_7 _ h
    refine y_if_ne cx d_L_lying_113 116 rfl 128 (by decide) (nm_zand _ _) h (fun h => ?_) (fun h => ?_)
    · refine z_sub [] rfl ?_
      exact hk_8  h
    · refine z_aload_n cx d_L_lying_116 117 rfl rfl 0 rfl ?_
      refine y_iconst cx d_L_lying_117 118 rfl ?_
      refine y_callV_i (As := [.int (zI 4)]) (rest := []) (W := fun u_9 => wX g X N T Rd Fr Ac Ch PS Ly Pa OT Ea Ga Im0 Im1 La) (rf := fun u_9 => zI u_9) (rm := zrX_now) cx (fun _ hq => tX_now hq) d_L_lying_118 121 rfl kk_X11_now q_834 q_835 q_836 rfl e_X rfl ⟨rfl, rfl⟩ ⟨Nat.le_of_ble_eq_true rfl, Nat.le_of_ble_eq_true rfl⟩ rfl rfl (Nat.le_of_ble_eq_true rfl) ⟨Nat.zero_le _, Nat.zero_le _⟩ h (fun u_9 h => ?_)
      refine z_iload_n cx d_L_lying_121 122 rfl rfl 2 rfl ?_
      refine y_callS_i (As := [.int (zI v2_1)]) (rest := [.int (zI u_9)]) (W := fun u_10 => wX g X N T Rd Fr Ac Ch PS Ly Pa OT Ea Ga Im0 Im1 La) (rf := fun u_10 => zI u_10) (rm := zr0) cx (fun _ hq => tL_bits hq) d_L_lying_122 125 rfl kk_L_bits q_861 q_862 ⟨rfl, rfl⟩ ⟨Nat.le_of_ble_eq_true rfl, Nat.le_of_ble_eq_true rfl⟩ rfl rfl (Nat.le_of_ble_eq_true rfl) ⟨Nat.zero_le _, Nat.zero_le _⟩ h (fun u_10 h => ?_)
      refine y_icmp_eq cx d_L_lying_125 128 rfl 132 (by decide) rfl rfl h (fun h => ?_) (fun h => ?_)
      · refine z_iload_n cx d_L_lying_132 133 rfl rfl 2 rfl ?_
        refine z_sub [] rfl ?_
        exact hk_7 _ h
      · refine z_sub [] rfl ?_
        exact hk_8  h
  · refine z_aload_n cx d_L_lying_13 14 rfl rfl 0 rfl ?_
    refine z_iload_n cx d_L_lying_14 15 rfl rfl 3 rfl ?_
    refine y_callV_i (As := [.int (zI v3_2)]) (rest := []) (W := fun u_11 => wX g X N T Rd Fr Ac Ch PS Ly Pa OT Ea Ga Im0 Im1 La) (rf := fun u_11 => zI u_11) (rm := zrX_forest) cx (fun _ hq => tX_forest hq) d_L_lying_15 18 rfl kk_X11_forest q_471 q_472 q_473 rfl e_X rfl ⟨rfl, rfl⟩ ⟨Nat.le_of_ble_eq_true rfl, Nat.le_of_ble_eq_true rfl⟩ rfl rfl (Nat.le_of_ble_eq_true rfl) ⟨Nat.zero_le _, Nat.zero_le _⟩ h (fun u_11 h => ?_)
    refine y_istore cx d_L_lying_18 20 rfl (by decide) (lv' := [(4, .int (zI u_11)), (0, .ref (g.2.2 0)), (1, .ref (g.2.2 92)), (2, .int (zI v2_1)), (3, .int (zI v3_2))]) rfl ?_
    refine z_iload cx d_L_lying_20 22 rfl 0 rfl ?_
    refine kf0_f (P := V p l e zrL_lying s m args below meth c A s.heap g 6 Q (wX g X N T Rd Fr Ac Ch PS Ly Pa OT Ea Ga Im0 Im1 La) 0 0 [] 50 []) h (fun h => ?_) (fun k_12 hk_12 h => ?_)
    · refine y_iconst cx d_L_lying_50 51 rfl ?_
      subst hQ
      obtain rfl := Option.some.inj h
      exact z_iret cx d_L_lying_51 rfl rfl
    refine y_if_lt cx d_L_lying_22 25 rfl 50 (by decide) rfl h (fun h => ?_) (fun h => ?_)
    · refine z_sub [] rfl ?_
      exact hk_12  h
    · refine z_iload cx d_L_lying_25 27 rfl 0 rfl ?_
      refine z_aload_n cx d_L_lying_27 28 rfl rfl 2 rfl ?_
      refine y_iconst cx d_L_lying_28 29 rfl ?_
      refine y_ialdx cx d_L_lying_29 30 rfl e_La_v (by decide) h (fun x_13 h => ?_)
      refine y_ishr cx d_L_lying_30 31 rfl ?_
      refine y_if_ne cx d_L_lying_31 34 rfl 50 (by decide) (nm_zshr _ _) h (fun h => ?_) (fun h => ?_)
      · refine z_sub [] rfl ?_
        exact hk_12  h
      · refine z_iload cx d_L_lying_34 36 rfl 0 rfl ?_
        refine z_iload_n cx d_L_lying_36 37 rfl rfl 3 rfl ?_
        refine y_iand cx d_L_lying_37 38 rfl ?_
        refine y_if_ne cx d_L_lying_38 41 rfl 50 (by decide) (nm_zand _ _) h (fun h => ?_) (fun h => ?_)
        · refine z_sub [] rfl ?_
          exact hk_12  h
        · refine z_aload_n cx d_L_lying_41 42 rfl rfl 2 rfl ?_
          refine z_iload cx d_L_lying_42 44 rfl 0 rfl ?_
          refine y_callS_i (As := [.ref (g.2.2 92), .int (zI u_11)]) (rest := []) (W := fun u_14 => wX g X N T Rd Fr Ac Ch PS Ly Pa OT Ea Ga Im0 Im1 La) (rf := fun u_14 => zI u_14) (rm := zrL_isForest) cx (fun _ hq => tL_isForest hq) d_L_lying_44 47 rfl kk_L_isForest q_867 q_868 ⟨rfl, rfl⟩ ⟨Nat.le_of_ble_eq_true rfl, Nat.le_of_ble_eq_true rfl⟩ rfl rfl (Nat.le_of_ble_eq_true rfl) ⟨Nat.zero_le _, Nat.zero_le _⟩ h (fun u_14 h => ?_)
          refine y_if_ne cx d_L_lying_47 50 rfl 52 (by decide) rfl h (fun h => ?_) (fun h => ?_)
          · refine y_iconst cx d_L_lying_52 53 rfl ?_
            refine y_istore cx d_L_lying_53 55 rfl (by decide) (lv' := [(5, .int (zI 0)), (4, .int (zI u_11)), (0, .ref (g.2.2 0)), (1, .ref (g.2.2 92)), (2, .int (zI v2_1)), (3, .int (zI v3_2))]) rfl ?_
            refine z_sub [2, 3, 4, 5, 1, 0] rfl ?_
            refine lop1_f (P := fun (v5_15 : Int) => V p l e zrL_lying s m args below meth c A s.heap g 6 Q (wX g X N T Rd Fr Ac Ch PS Ly Pa OT Ea Ga Im0 Im1 La) 0 0 [(0, .ref (g.2.2 0)), (1, .ref (g.2.2 92)), (2, .int (zI v2_1)), (3, .int (zI v3_2)), (4, .int (zI u_11)), (5, .int (zI v5_15))] 55 []) (fun rec_16 hrec_16 v5_15 h => ?_) _ _ h
            refine z_iload cx d_L_lying_55 57 rfl 5 rfl ?_
            refine z_aload_n cx d_L_lying_57 58 rfl rfl 1 rfl ?_
            refine y_iconst cx d_L_lying_58 59 rfl ?_
            refine y_ialdx cx d_L_lying_59 60 rfl e_La_v (by decide) h (fun x_17 h => ?_)
            refine y_icmp_ge cx d_L_lying_60 63 rfl 93 (by decide) rfl rfl h (fun h => ?_) (fun h => ?_)
            · refine z_iload_n cx d_L_lying_93 94 rfl rfl 2 rfl ?_
              refine z_iload cx d_L_lying_94 96 rfl 4 rfl ?_
              refine y_ior cx d_L_lying_96 97 rfl ?_
              refine y_istore_n_b cx d_L_lying_97 98 rfl rfl (by decide) (fun y => [(2, .int (zI y)), (0, .ref (g.2.2 0)), (1, .ref (g.2.2 92)), (3, .int (zI v3_2)), (4, .int (zI u_11)), (5, .int (zI v5_15))]) (fun y => rfl) h (fun v2_18 h => ?_)
              refine y_iinc cx 3 d_L_lying_98 101 rfl rfl (by decide) (lv' := [(3, .int (zI (v3_2 + 1))), (2, .int (zI v2_18)), (0, .ref (g.2.2 0)), (1, .ref (g.2.2 92)), (4, .int (zI u_11)), (5, .int (zI v5_15))]) rfl ?_
              refine z_goto cx d_L_lying_101 4 (by decide) ?_
              refine z_sub [2, 3, 1, 0] rfl ?_
              exact hrec_3 _ _ h
            · refine z_iload cx d_L_lying_63 65 rfl 4 rfl ?_
              refine z_iload cx d_L_lying_65 67 rfl 5 rfl ?_
              refine y_callS_i (As := [.int (zI u_11), .int (zI v5_15)]) (rest := []) (W := fun u_19 => wX g X N T Rd Fr Ac Ch PS Ly Pa OT Ea Ga Im0 Im1 La) (rf := fun u_19 => zI u_19) (rm := zr0) cx (fun _ hq => tL_has hq) d_L_lying_67 70 rfl kk_L_has q_864 q_865 ⟨rfl, rfl⟩ ⟨Nat.le_of_ble_eq_true rfl, Nat.le_of_ble_eq_true rfl⟩ rfl rfl (Nat.le_of_ble_eq_true rfl) ⟨Nat.zero_le _, Nat.zero_le _⟩ h (fun u_19 h => ?_)
              refine kf0_f (P := V p l e zrL_lying s m args below meth c A s.heap g 6 Q (wX g X N T Rd Fr Ac Ch PS Ly Pa OT Ea Ga Im0 Im1 La) 0 0 [(0, .ref (g.2.2 0)), (1, .ref (g.2.2 92)), (2, .int (zI v2_1)), (3, .int (zI v3_2)), (4, .int (zI u_11)), (5, .int (zI v5_15))] 87 []) h (fun h => ?_) (fun k_20 hk_20 h => ?_)
              · refine y_iinc cx 5 d_L_lying_87 90 rfl rfl (by decide) (lv' := [(5, .int (zI (v5_15 + 1))), (0, .ref (g.2.2 0)), (1, .ref (g.2.2 92)), (2, .int (zI v2_1)), (3, .int (zI v3_2)), (4, .int (zI u_11))]) rfl ?_
                refine z_goto cx d_L_lying_90 55 (by decide) ?_
                refine z_sub [1, 2, 3, 4, 5, 0] rfl ?_
                exact hrec_16 _ h
              refine y_if_eq cx d_L_lying_70 73 rfl 87 (by decide) rfl h (fun h => ?_) (fun h => ?_)
              · exact hk_20  h
              · refine z_aload_n cx d_L_lying_73 74 rfl rfl 0 rfl ?_
                refine y_iconst cx d_L_lying_74 75 rfl ?_
                refine z_iload cx d_L_lying_75 77 rfl 5 rfl ?_
                refine y_iconst cx d_L_lying_77 78 rfl ?_
                refine y_callSh (As := [.ref (g.2.2 0), .int (zI 0), .int (zI v5_15), .int (zI 3)]) (rest := []) (W := fun u_21 => wX g X N T Rd Fr Ac Ch PS Ly Pa OT Ea Ga Im0 Im1 La) (rf := fun u_21 => zI u_21) (rm := zrL_its) cx (fun _ hq => tL_its hq) d_L_lying_78 81 rfl qh_its q_26 qh_itsy q_607 q_608 ⟨rfl, rfl⟩ ⟨Nat.le_of_ble_eq_true rfl, Nat.le_of_ble_eq_true rfl⟩ rfl rfl (Nat.le_of_ble_eq_true rfl) ⟨Nat.zero_le _, Nat.zero_le _⟩ h (fun u_21 h => ?_)
                refine z_iload_n cx d_L_lying_81 82 rfl rfl 3 rfl ?_
                refine y_icmp_eq cx d_L_lying_82 85 rfl 87 (by decide) rfl rfl h (fun h => ?_) (fun h => ?_)
                · exact hk_20  h
                · refine y_iconst cx d_L_lying_85 86 rfl ?_
                  subst hQ
                  obtain rfl := Option.some.inj h
                  exact z_iret cx d_L_lying_86 rfl rfl
          · refine z_sub [] rfl ?_
            exact hk_12  h
