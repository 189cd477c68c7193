-- needs: 13.vread
def zrX_feed : Room := { frames := 1, cells := 0, slots := 0, locals := 22 }
set_option maxHeartbeats 4000000 in
theorem tX_feed {l : Launch} {g : ZG} {X : ZB} {N : ZB} {T : ZB} {Rd : ZB} {Fr : ZB} {Ac : ZA} {Ch : ZB} {PS : ZB} {Ly : ZB} {Pa : ZQ} {OT : ZB} {Ea : ZB} {Ga : ZB} {Im0 : ZO} {Im1 : ZO} {La : ZB} {a1 : Int} {a2 : Int} {a3 : Int} {a4 : Int} {a5 : Int} {r : Int × ZB} (h : fX_feed T a1 a2 a3 a4 a5 = some r) : zMi l yX11_feed cX11_feed 6 (some .int) zrX_feed g [.ref (g.2.2 0), .int (zI a1), .int (zI a2), .int (zI a3), .int (zI a4), .int (zI a5)] (wX g X N T Rd Fr Ac Ch PS Ly Pa OT Ea Ga Im0 Im1 La) (wX g X N r.2 Rd Fr Ac Ch PS Ly Pa OT Ea Ga Im0 Im1 La) (zI r.1) := by
  unfold fX_feed at h
  refine zMi_q (own := RX11) rfl (by decide +kernel) (Nat.le_of_ble_eq_true rfl) (lv := [(0, .ref (g.2.2 0)), (1, .int (zI a1)), (2, .int (zI a2)), (3, .int (zI a3)), (4, .int (zI a4)), (5, .int (zI a5))]) rfl ⟨rfl, rfl⟩ ?_
  intro p e s m args below meth c A Q hQ cx
  refine z_aload_n cx d_X11_feed_0 1 rfl rfl 0 rfl ?_
  refine z_get cx d_X11_feed_1 4 rfl e_X rfl zX11 1 (by decide) q_433 rfl rfl ?_
  refine y_callV_i (As := []) (rest := []) (W := fun u_1 => wX g X N T Rd Fr Ac Ch PS Ly Pa OT Ea Ga Im0 Im1 La) (rf := fun u_1 => zI u_1) (rm := zr0) cx (fun _ hq => tT_hasRoom hq) d_X11_feed_4 7 rfl kk_X10_hasRoom q_726 q_727 q_728 rfl e_T rfl ⟨rfl, rfl⟩ ⟨Nat.le_of_ble_eq_true rfl, Nat.le_of_ble_eq_true rfl⟩ rfl rfl (Nat.le_of_ble_eq_true rfl) ⟨Nat.zero_le _, Nat.zero_le _⟩ h (fun u_1 h => ?_)
  refine y_if_ne cx d_X11_feed_7 10 rfl 12 (by decide) rfl h (fun h => ?_) (fun h => ?_)
  · refine z_aload_n cx d_X11_feed_12 13 rfl rfl 0 rfl ?_
    refine z_get cx d_X11_feed_13 16 rfl e_X rfl zX11 1 (by decide) q_433 rfl rfl ?_
    refine z_iload_n cx d_X11_feed_16 17 rfl rfl 1 rfl ?_
    refine y_callV_v (As := [.int (zI a1)]) (rest := []) (W := fun u_2 => wX g X N u_2 Rd Fr Ac Ch PS Ly Pa OT Ea Ga Im0 Im1 La) (rm := zr0) cx (fun _ hq => tT_add hq) d_X11_feed_17 20 rfl kk_X10_add q_730 q_731 q_732 rfl e_T rfl ⟨rfl, rfl⟩ ⟨Nat.le_of_ble_eq_true rfl, Nat.le_of_ble_eq_true rfl⟩ rfl rfl (Nat.le_of_ble_eq_true rfl) ⟨Nat.zero_le _, Nat.zero_le _⟩ h (fun u_2 h => ?_)
    refine z_aload_n cx d_X11_feed_20 21 rfl rfl 0 rfl ?_
    refine z_get cx d_X11_feed_21 24 rfl e_X rfl zX11 1 (by decide) q_433 rfl rfl ?_
    refine z_iload_n cx d_X11_feed_24 25 rfl rfl 2 rfl ?_
    refine y_callV_v (As := [.int (zI a2)]) (rest := []) (W := fun u_3 => wX g X N u_3 Rd Fr Ac Ch PS Ly Pa OT Ea Ga Im0 Im1 La) (rm := zr0) cx (fun _ hq => tT_add hq) d_X11_feed_25 28 rfl kk_X10_add q_730 q_731 q_732 rfl e_T rfl ⟨rfl, rfl⟩ ⟨Nat.le_of_ble_eq_true rfl, Nat.le_of_ble_eq_true rfl⟩ rfl rfl (Nat.le_of_ble_eq_true rfl) ⟨Nat.zero_le _, Nat.zero_le _⟩ h (fun u_3 h => ?_)
    refine z_aload_n cx d_X11_feed_28 29 rfl rfl 0 rfl ?_
    refine z_get cx d_X11_feed_29 32 rfl e_X rfl zX11 1 (by decide) q_433 rfl rfl ?_
    refine z_iload_n cx d_X11_feed_32 33 rfl rfl 3 rfl ?_
    refine y_callV_v (As := [.int (zI a3)]) (rest := []) (W := fun u_4 => wX g X N u_4 Rd Fr Ac Ch PS Ly Pa OT Ea Ga Im0 Im1 La) (rm := zr0) cx (fun _ hq => tT_add hq) d_X11_feed_33 36 rfl kk_X10_add q_730 q_731 q_732 rfl e_T rfl ⟨rfl, rfl⟩ ⟨Nat.le_of_ble_eq_true rfl, Nat.le_of_ble_eq_true rfl⟩ rfl rfl (Nat.le_of_ble_eq_true rfl) ⟨Nat.zero_le _, Nat.zero_le _⟩ h (fun u_4 h => ?_)
    refine z_aload_n cx d_X11_feed_36 37 rfl rfl 0 rfl ?_
    refine z_get cx d_X11_feed_37 40 rfl e_X rfl zX11 1 (by decide) q_433 rfl rfl ?_
    refine z_iload cx d_X11_feed_40 42 rfl 4 rfl ?_
    refine y_callV_v (As := [.int (zI a4)]) (rest := []) (W := fun u_5 => wX g X N u_5 Rd Fr Ac Ch PS Ly Pa OT Ea Ga Im0 Im1 La) (rm := zr0) cx (fun _ hq => tT_add hq) d_X11_feed_42 45 rfl kk_X10_add q_730 q_731 q_732 rfl e_T rfl ⟨rfl, rfl⟩ ⟨Nat.le_of_ble_eq_true rfl, Nat.le_of_ble_eq_true rfl⟩ rfl rfl (Nat.le_of_ble_eq_true rfl) ⟨Nat.zero_le _, Nat.zero_le _⟩ h (fun u_5 h => ?_)
    refine z_aload_n cx d_X11_feed_45 46 rfl rfl 0 rfl ?_
    refine z_get cx d_X11_feed_46 49 rfl e_X rfl zX11 1 (by decide) q_433 rfl rfl ?_
    refine z_iload cx d_X11_feed_49 51 rfl 5 rfl ?_
    refine y_callV_v (As := [.int (zI a5)]) (rest := []) (W := fun u_6 => wX g X N u_6 Rd Fr Ac Ch PS Ly Pa OT Ea Ga Im0 Im1 La) (rm := zr0) cx (fun _ hq => tT_add hq) d_X11_feed_51 54 rfl kk_X10_add q_730 q_731 q_732 rfl e_T rfl ⟨rfl, rfl⟩ ⟨Nat.le_of_ble_eq_true rfl, Nat.le_of_ble_eq_true rfl⟩ rfl rfl (Nat.le_of_ble_eq_true rfl) ⟨Nat.zero_le _, Nat.zero_le _⟩ h (fun u_6 h => ?_)
    refine z_aload_n cx d_X11_feed_54 55 rfl rfl 0 rfl ?_
    refine z_get cx d_X11_feed_55 58 rfl e_X rfl zX11 1 (by decide) q_433 rfl rfl ?_
    refine y_callV_i (As := []) (rest := []) (W := fun u_7 => wX g X N u_6 Rd Fr Ac Ch PS Ly Pa OT Ea Ga Im0 Im1 La) (rf := fun u_7 => zI u_7) (rm := zr0) cx (fun _ hq => tT_size hq) d_X11_feed_58 61 rfl kk_X10_size q_714 q_715 q_716 rfl e_T rfl ⟨rfl, rfl⟩ ⟨Nat.le_of_ble_eq_true rfl, Nat.le_of_ble_eq_true rfl⟩ rfl rfl (Nat.le_of_ble_eq_true rfl) ⟨Nat.zero_le _, Nat.zero_le _⟩ h (fun u_7 h => ?_)
    subst hQ
    obtain rfl := Option.some.inj h
    exact z_iret cx d_X11_feed_61 rfl rfl
  · refine y_iconst cx d_X11_feed_10 11 rfl ?_
    subst hQ
    obtain rfl := Option.some.inj h
    exact z_iret cx d_X11_feed_11 rfl rfl
def zrX_end : Room := { frames := 1, cells := 0, slots := 0, locals := 21 }
set_option maxHeartbeats 4000000 in
theorem tX_end {l : Launch} {g : ZG} {X : ZB} {N : ZB} {T : ZB} {Rd : ZB} {Fr : ZB} {Ac : ZA} {Ch : ZB} {PS : ZB} {Ly : ZB} {Pa : ZQ} {OT : ZB} {Ea : ZB} {Ga : ZB} {Im0 : ZO} {Im1 : ZO} {La : ZB} {a1 : Int} {r : Int × ZB} (h : fX_end T a1 = some r) : zMi l yX11_end cX11_end 2 (some .boolean) zrX_end g [.ref (g.2.2 0), .int (zI a1)] (wX g X N T Rd Fr Ac Ch PS Ly Pa OT Ea Ga Im0 Im1 La) (wX g X N r.2 Rd Fr Ac Ch PS Ly Pa OT Ea Ga Im0 Im1 La) (zI r.1) := by
  unfold fX_end at h
  refine zMi_q (own := RX11) rfl (by decide +kernel) (Nat.le_of_ble_eq_true rfl) (lv := [(0, .ref (g.2.2 0)), (1, .int (zI a1))]) rfl ⟨rfl, rfl⟩ ?_
  intro p e s m args below meth c A Q hQ cx
  refine z_iload_n cx d_X11_end_0 1 rfl rfl 1 rfl ?_
  refine kf0_f (P := V p l e zrX_end s m args below meth c A s.heap g 2 Q (wX g X N T Rd Fr Ac Ch PS Ly Pa OT Ea Ga Im0 Im1 La) 0 0 [] 15 []) h (fun h => ?_) (fun k_1 hk_1 h => ?_)
  · refine y_iconst cx d_X11_end_15 16 rfl ?_
    subst hQ
    obtain rfl := Option.some.inj h
    exact z_zret cx d_X11_end_16 (zb01 (by decide)) rfl rfl
  refine y_if_lt cx d_X11_end_1 4 rfl 15 (by decide) rfl h (fun h => ?_) (fun h => ?_)
  · refine z_sub [] rfl ?_
    exact hk_1  h
  · refine z_iload_n cx d_X11_end_4 5 rfl rfl 1 rfl ?_
    refine z_aload_n cx d_X11_end_5 6 rfl rfl 0 rfl ?_
    refine z_get cx d_X11_end_6 9 rfl e_X rfl zX11 1 (by decide) q_433 rfl rfl ?_
    refine y_callV_i (As := []) (rest := [.int (zI a1)]) (W := fun u_2 => wX g X N T Rd Fr Ac Ch PS Ly Pa OT Ea Ga Im0 Im1 La) (rf := fun u_2 => zI u_2) (rm := zr0) cx (fun _ hq => tT_size hq) d_X11_end_9 12 rfl kk_X10_size q_714 q_715 q_716 rfl e_T rfl ⟨rfl, rfl⟩ ⟨Nat.le_of_ble_eq_true rfl, Nat.le_of_ble_eq_true rfl⟩ rfl rfl (Nat.le_of_ble_eq_true rfl) ⟨Nat.zero_le _, Nat.zero_le _⟩ h (fun u_2 h => ?_)
    refine y_icmp_le cx d_X11_end_12 15 rfl 17 (by decide) rfl rfl h (fun h => ?_) (fun h => ?_)
    · refine z_aload_n cx d_X11_end_17 18 rfl rfl 0 rfl ?_
      refine z_get cx d_X11_end_18 21 rfl e_X rfl zX11 1 (by decide) q_433 rfl rfl ?_
      refine z_iload_n cx d_X11_end_21 22 rfl rfl 1 rfl ?_
      refine y_callV_v (As := [.int (zI a1)]) (rest := []) (W := fun u_3 => wX g X N u_3 Rd Fr Ac Ch PS Ly Pa OT Ea Ga Im0 Im1 La) (rm := zr0) cx (fun _ hq => tT_cut hq) d_X11_end_22 25 rfl kk_X10_cut q_718 q_719 q_720 rfl e_T rfl ⟨rfl, rfl⟩ ⟨Nat.le_of_ble_eq_true rfl, Nat.le_of_ble_eq_true rfl⟩ rfl rfl (Nat.le_of_ble_eq_true rfl) ⟨Nat.zero_le _, Nat.zero_le _⟩ h (fun u_3 h => ?_)
      refine y_iconst cx d_X11_end_25 26 rfl ?_
      subst hQ
      obtain rfl := Option.some.inj h
      exact z_zret cx d_X11_end_26 (zb01 (by decide)) rfl rfl
    · refine z_sub [] rfl ?_
      exact hk_1  h
def zrX_net : Room := { frames := 7, cells := 0, slots := 0, locals := 151 }
set_option maxHeartbeats 4000000 in
theorem tX_net {l : Launch} {g : ZG} {X : ZB} {N : ZB} {T : ZB} {Rd : ZB} {Fr : ZB} {Ac : ZA} {Ch : ZB} {PS : ZB} {Ly : ZB} {Pa : ZQ} {OT : ZB} {Ea : ZB} {Ga : ZB} {Im0 : ZO} {Im1 : ZO} {La : ZB}  {r : Int × ZB × ZB × ZB × ZB × ZA} (h : fX_net N T Rd Fr Ac = some r) : zMi l yX11_net cX11_net 2 (some .int) zrX_net g [.ref (g.2.2 0)] (wX g X N T Rd Fr Ac Ch PS Ly Pa OT Ea Ga Im0 Im1 La) (wX g X r.2.1 r.2.2.1 r.2.2.2.1 r.2.2.2.2.1 r.2.2.2.2.2 Ch PS Ly Pa OT Ea Ga Im0 Im1 La) (zI r.1) := by
  unfold fX_net at h
  refine zMi_q (own := RX11) rfl (by decide +kernel) (Nat.le_of_ble_eq_true rfl) (lv := [(0, .ref (g.2.2 0))]) rfl ⟨rfl, rfl⟩ ?_
  intro p e s m args below meth c A Q hQ cx
  refine z_aload_n cx d_X11_net_0 1 rfl rfl 0 rfl ?_
  refine z_get cx d_X11_net_1 4 rfl e_X rfl zX11 2 (by decide) q_434 rfl rfl ?_
  refine y_callV_i (As := []) (rest := []) (W := fun u_1 => wX g X N T u_1.2.1 u_1.2.2 Ac Ch PS Ly Pa OT Ea Ga Im0 Im1 La) (rf := fun u_1 => zI u_1.1) (rm := zrRd_read) cx (fun _ hq => tRd_read hq) d_X11_net_4 7 rfl kk_X9_read q_738 q_739 q_740 rfl e_Rd rfl ⟨rfl, rfl⟩ ⟨Nat.le_of_ble_eq_true rfl, Nat.le_of_ble_eq_true rfl⟩ rfl rfl (Nat.le_of_ble_eq_true rfl) ⟨Nat.zero_le _, Nat.zero_le _⟩ h (fun u_1 h => ?_)
  refine y_istore_n cx d_X11_net_7 8 rfl rfl (by decide) (lv' := [(1, .int (zI u_1.1)), (0, .ref (g.2.2 0))]) rfl ?_
  refine z_aload_n cx d_X11_net_8 9 rfl rfl 1 rfl ?_
  refine z_get cx d_X11_net_9 12 rfl e_X rfl zX11 1 (by decide) q_433 rfl rfl ?_
  refine y_iconst cx d_X11_net_12 13 rfl ?_
  refine y_callV_v (As := [.int (zI 0)]) (rest := []) (W := fun u_2 => wX g X N u_2 u_1.2.1 u_1.2.2 Ac Ch PS Ly Pa OT Ea Ga Im0 Im1 La) (rm := zr0) cx (fun _ hq => tT_cut hq) d_X11_net_13 16 rfl kk_X10_cut q_718 q_719 q_720 rfl e_T rfl ⟨rfl, rfl⟩ ⟨Nat.le_of_ble_eq_true rfl, Nat.le_of_ble_eq_true rfl⟩ rfl rfl (Nat.le_of_ble_eq_true rfl) ⟨Nat.zero_le _, Nat.zero_le _⟩ h (fun u_2 h => ?_)
  refine z_iload_n cx d_X11_net_16 17 rfl rfl 0 rfl ?_
  refine kf2_f (P := fun (N_3 : ZB) (Ac_4 : ZA) => V p l e zrX_net s m args below meth c A s.heap g 2 Q (wX g X N_3 u_2 u_1.2.1 u_1.2.2 Ac_4 Ch PS Ly Pa OT Ea Ga Im0 Im1 La) 0 0 [(1, .int (zI u_1.1))] 41 []) h (fun N_3 Ac_4 h => ?_) (fun k_5 hk_5 h => ?_)
  · refine z_iload_n cx d_X11_net_41 42 rfl rfl 0 rfl ?_
    subst hQ
    obtain rfl := Option.some.inj h
    exact z_iret cx d_X11_net_42 rfl rfl
  refine y_if_lt cx d_X11_net_17 20 rfl 41 (by decide) rfl h (fun h => ?_) (fun h => ?_)
  · refine z_sub [0] rfl ?_
    exact hk_5 _ _ h
  · refine z_aload_n cx d_X11_net_20 21 rfl rfl 1 rfl ?_
    refine z_get cx d_X11_net_21 24 rfl e_X rfl zX11 0 (by decide) q_432 rfl rfl ?_
    refine z_aload_n cx d_X11_net_24 25 rfl rfl 1 rfl ?_
    refine z_get cx d_X11_net_25 28 rfl e_X rfl zX11 2 (by decide) q_434 rfl rfl ?_
    refine z_callV_r (As := []) (rest := [.ref (g.2.2 1)]) (rm := zr0) cx tRd_told d_X11_net_28 31 rfl kk_X9_told q_817 q_818 q_819 rfl e_Rd rfl ⟨rfl, rfl⟩ ⟨Nat.le_of_ble_eq_true rfl, Nat.le_of_ble_eq_true rfl⟩ rfl rfl (Nat.le_of_ble_eq_true rfl) ⟨Nat.zero_le _, Nat.zero_le _⟩ ?_
    refine y_callV_v (As := [.ref (g.2.2 10)]) (rest := []) (W := fun u_6 => wX g X u_6 u_2 u_1.2.1 u_1.2.2 Ac Ch PS Ly Pa OT Ea Ga Im0 Im1 La) (rm := zrN_become) cx (fun _ hq => tN_become_N_Fr hq) d_X11_net_31 34 rfl kk_X5_become q_821 q_512 q_513 rfl e_N rfl ⟨rfl, rfl⟩ ⟨Nat.le_of_ble_eq_true rfl, Nat.le_of_ble_eq_true rfl⟩ rfl rfl (Nat.le_of_ble_eq_true rfl) ⟨Nat.zero_le _, Nat.zero_le _⟩ h (fun u_6 h => ?_)
    refine z_aload_n cx d_X11_net_34 35 rfl rfl 1 rfl ?_
    refine z_get cx d_X11_net_35 38 rfl e_X rfl zX11 3 (by decide) q_435 rfl rfl ?_
    refine y_callV_v (As := []) (rest := []) (W := fun u_7 => wX g X u_6 u_2 u_1.2.1 u_1.2.2 u_7 Ch PS Ly Pa OT Ea Ga Im0 Im1 La) (rm := zr0) cx (fun _ hq => tAc_forget hq) d_X11_net_38 41 rfl kk_X0_forget q_822 q_823 q_824 rfl e_Ac rfl ⟨rfl, rfl⟩ ⟨Nat.le_of_ble_eq_true rfl, Nat.le_of_ble_eq_true rfl⟩ rfl rfl (Nat.le_of_ble_eq_true rfl) ⟨Nat.zero_le _, Nat.zero_le _⟩ h (fun u_7 h => ?_)
    refine z_sub [0] rfl ?_
    exact hk_5 _ _ h
def zrX_fault : Room := { frames := 1, cells := 0, slots := 0, locals := 20 }
set_option maxHeartbeats 4000000 in
theorem tX_fault {l : Launch} {g : ZG} {X : ZB} {N : ZB} {T : ZB} {Rd : ZB} {Fr : ZB} {Ac : ZA} {Ch : ZB} {PS : ZB} {Ly : ZB} {Pa : ZQ} {OT : ZB} {Ea : ZB} {Ga : ZB} {Im0 : ZO} {Im1 : ZO} {La : ZB}  {r : Int} (h : fX_fault Rd = some r) : zMi l yX11_fault cX11_fault 1 (some .int) zrX_fault g [.ref (g.2.2 0)] (wX g X N T Rd Fr Ac Ch PS Ly Pa OT Ea Ga Im0 Im1 La) (wX g X N T Rd Fr Ac Ch PS Ly Pa OT Ea Ga Im0 Im1 La) (zI r) := by
  unfold fX_fault at h
  refine zMi_q (own := RX11) rfl (by decide +kernel) (Nat.le_of_ble_eq_true rfl) (lv := [(0, .ref (g.2.2 0))]) rfl ⟨rfl, rfl⟩ ?_
  intro p e s m args below meth c A Q hQ cx
  refine z_aload_n cx d_X11_fault_0 1 rfl rfl 0 rfl ?_
  refine z_get cx d_X11_fault_1 4 rfl e_X rfl zX11 2 (by decide) q_434 rfl rfl ?_
  refine y_callV_i (As := []) (rest := []) (W := fun u_1 => wX g X N T Rd Fr Ac Ch PS Ly Pa OT Ea Ga Im0 Im1 La) (rf := fun u_1 => zI u_1) (rm := zr0) cx (fun _ hq => tRd_faultKind hq) d_X11_fault_4 7 rfl kk_X9_faultKind q_830 q_831 q_832 rfl e_Rd rfl ⟨rfl, rfl⟩ ⟨Nat.le_of_ble_eq_true rfl, Nat.le_of_ble_eq_true rfl⟩ rfl rfl (Nat.le_of_ble_eq_true rfl) ⟨Nat.zero_le _, Nat.zero_le _⟩ h (fun u_1 h => ?_)
  subst hQ
  obtain rfl := Option.some.inj h
  exact z_iret cx d_X11_fault_7 rfl rfl
def zrX_forest : Room := { frames := 1, cells := 0, slots := 0, locals := 23 }
set_option maxHeartbeats 4000000 in
theorem tX_forest {l : Launch} {g : ZG} {X : ZB} {N : ZB} {T : ZB} {Rd : ZB} {Fr : ZB} {Ac : ZA} {Ch : ZB} {PS : ZB} {Ly : ZB} {Pa : ZQ} {OT : ZB} {Ea : ZB} {Ga : ZB} {Im0 : ZO} {Im1 : ZO} {La : ZB} {a1 : Int} {r : Int} (h : fX_forest N a1 = some r) : zMi l yX11_forest cX11_forest 2 (some .int) zrX_forest g [.ref (g.2.2 0), .int (zI a1)] (wX g X N T Rd Fr Ac Ch PS Ly Pa OT Ea Ga Im0 Im1 La) (wX g X N T Rd Fr Ac Ch PS Ly Pa OT Ea Ga Im0 Im1 La) (zI r) := by
  unfold fX_forest at h
  refine zMi_q (own := RX11) rfl (by decide +kernel) (Nat.le_of_ble_eq_true rfl) (lv := [(0, .ref (g.2.2 0)), (1, .int (zI a1))]) rfl ⟨rfl, rfl⟩ ?_
  intro p e s m args below meth c A Q hQ cx
  refine z_aload_n cx d_X11_forest_0 1 rfl rfl 0 rfl ?_
  refine z_get cx d_X11_forest_1 4 rfl e_X rfl zX11 0 (by decide) q_432 rfl rfl ?_
  refine z_iload_n cx d_X11_forest_4 5 rfl rfl 1 rfl ?_
  refine y_callV_i (As := [.int (zI a1)]) (rest := []) (W := fun u_1 => wX g X N T Rd Fr Ac Ch PS Ly Pa OT Ea Ga Im0 Im1 La) (rf := fun u_1 => zI u_1) (rm := zr0) cx (fun _ hq => tN_hasForest hq) d_X11_forest_5 8 rfl kk_X5_hasForest q_475 q_476 q_477 rfl e_N rfl ⟨rfl, rfl⟩ ⟨Nat.le_of_ble_eq_true rfl, Nat.le_of_ble_eq_true rfl⟩ rfl rfl (Nat.le_of_ble_eq_true rfl) ⟨Nat.zero_le _, Nat.zero_le _⟩ h (fun u_1 h => ?_)
  refine kf1_f (P := fun (w0_2 : Int) => V p l e zrX_forest s m args below meth c A s.heap g 2 Q (wX g X N T Rd Fr Ac Ch PS Ly Pa OT Ea Ga Im0 Im1 La) 0 0 [] 23 [.int (zI w0_2)]) h (fun w0_2 h => ?_) (fun k_3 hk_3 h => ?_)
  · subst hQ
    obtain rfl := Option.some.inj h
    exact z_iret cx d_X11_forest_23 rfl rfl
  refine y_if_eq cx d_X11_forest_8 11 rfl 22 (by decide) rfl h (fun h => ?_) (fun h => ?_)
  · refine y_iconst cx d_X11_forest_22 23 rfl ?_
    refine z_sub [] rfl ?_
    exact hk_3 _ h
  · refine z_aload_n cx d_X11_forest_11 12 rfl rfl 0 rfl ?_
    refine z_get cx d_X11_forest_12 15 rfl e_X rfl zX11 0 (by decide) q_432 rfl rfl ?_
    refine z_iload_n cx d_X11_forest_15 16 rfl rfl 1 rfl ?_
    refine y_callV_i (As := [.int (zI a1)]) (rest := []) (W := fun u_4 => wX g X N T Rd Fr Ac Ch PS Ly Pa OT Ea Ga Im0 Im1 La) (rf := fun u_4 => zI u_4) (rm := zr0) cx (fun _ hq => tN_forestSet hq) d_X11_forest_16 19 rfl kk_X5_forestSet q_479 q_480 q_481 rfl e_N rfl ⟨rfl, rfl⟩ ⟨Nat.le_of_ble_eq_true rfl, Nat.le_of_ble_eq_true rfl⟩ rfl rfl (Nat.le_of_ble_eq_true rfl) ⟨Nat.zero_le _, Nat.zero_le _⟩ h (fun u_4 h => ?_)
    refine z_goto cx d_X11_forest_19 23 (by decide) ?_
    refine z_sub [] rfl ?_
    exact hk_3 _ h
def zrX_now : Room := { frames := 3, cells := 0, slots := 0, locals := 71 }
set_option maxHeartbeats 4000000 in
theorem tX_now {l : Launch} {g : ZG} {X : ZB} {N : ZB} {T : ZB} {Rd : ZB} {Fr : ZB} {Ac : ZA} {Ch : ZB} {PS : ZB} {Ly : ZB} {Pa : ZQ} {OT : ZB} {Ea : ZB} {Ga : ZB} {Im0 : ZO} {Im1 : ZO} {La : ZB} {a1 : Int} {r : Int} (h : fX_now N T Ac a1 = some r) : zMi l yX11_now cX11_now 2 (some .int) zrX_now g [.ref (g.2.2 0), .int (zI a1)] (wX g X N T Rd Fr Ac Ch PS Ly Pa OT Ea Ga Im0 Im1 La) (wX g X N T Rd Fr Ac Ch PS Ly Pa OT Ea Ga Im0 Im1 La) (zI r) := by
  unfold fX_now at h
  refine zMi_q (own := RX11) rfl (by decide +kernel) (Nat.le_of_ble_eq_true rfl) (lv := [(0, .ref (g.2.2 0)), (1, .int (zI a1))]) rfl ⟨rfl, rfl⟩ ?_
  intro p e s m args below meth c A Q hQ cx
  refine z_iload_n cx d_X11_now_0 1 rfl rfl 1 rfl ?_
  refine ite_c h (fun c_1 h => ?_) (fun c_1 h => ?_)
  · refine y_swIn cx d_X11_now_1 0 (Eq.trans rfl c_1) 52 (by decide) (by decide) rfl (by decide) ?_
    refine z_aload_n cx d_X11_now_52 53 rfl rfl 0 rfl ?_
    refine z_get cx d_X11_now_53 56 rfl e_X rfl zX11 0 (by decide) q_432 rfl rfl ?_
    refine z_get cx d_X11_now_56 59 rfl e_N rfl zX5 4 (by decide) q_82 rfl rfl ?_
    subst hQ
    obtain rfl := Option.some.inj h
    exact z_iret cx d_X11_now_59 rfl rfl
  · refine ite_c h (fun c_2 h => ?_) (fun c_2 h => ?_)
    · refine y_swIn cx d_X11_now_1 1 (Eq.trans rfl c_2) 60 (by decide) (by decide) rfl (by decide) ?_
      refine z_aload_n cx d_X11_now_60 61 rfl rfl 0 rfl ?_
      refine z_get cx d_X11_now_61 64 rfl e_X rfl zX11 0 (by decide) q_432 rfl rfl ?_
      refine z_get cx d_X11_now_64 67 rfl e_N rfl zX5 5 (by decide) q_87 rfl rfl ?_
      subst hQ
      obtain rfl := Option.some.inj h
      exact z_iret cx d_X11_now_67 rfl rfl
    · refine ite_c h (fun c_3 h => ?_) (fun c_3 h => ?_)
      · refine y_swIn cx d_X11_now_1 2 (Eq.trans rfl c_3) 68 (by decide) (by decide) rfl (by decide) ?_
        refine z_aload_n cx d_X11_now_68 69 rfl rfl 0 rfl ?_
        refine z_get cx d_X11_now_69 72 rfl e_X rfl zX11 0 (by decide) q_432 rfl rfl ?_
        refine z_get cx d_X11_now_72 75 rfl e_N rfl zX5 6 (by decide) q_91 rfl rfl ?_
        subst hQ
        obtain rfl := Option.some.inj h
        exact z_iret cx d_X11_now_75 rfl rfl
      · refine ite_c h (fun c_4 h => ?_) (fun c_4 h => ?_)
        · refine y_swIn cx d_X11_now_1 3 (Eq.trans rfl c_4) 76 (by decide) (by decide) rfl (by decide) ?_
          refine z_aload_n cx d_X11_now_76 77 rfl rfl 0 rfl ?_
          refine z_get cx d_X11_now_77 80 rfl e_X rfl zX11 0 (by decide) q_432 rfl rfl ?_
          refine y_callV_i (As := []) (rest := []) (W := fun u_5 => wX g X N T Rd Fr Ac Ch PS Ly Pa OT Ea Ga Im0 Im1 La) (rf := fun u_5 => zI u_5) (rm := zr0) cx (fun _ hq => tN_soundSet hq) d_X11_now_80 83 rfl kk_X5_soundSet q_838 q_839 q_840 rfl e_N rfl ⟨rfl, rfl⟩ ⟨Nat.le_of_ble_eq_true rfl, Nat.le_of_ble_eq_true rfl⟩ rfl rfl (Nat.le_of_ble_eq_true rfl) ⟨Nat.zero_le _, Nat.zero_le _⟩ h (fun u_5 h => ?_)
          refine y_callS_i (As := [.int (zI u_5)]) (rest := []) (W := fun u_6 => wX g X N T Rd Fr Ac Ch PS Ly Pa OT Ea Ga Im0 Im1 La) (rf := fun u_6 => zI u_6) (rm := zr0) cx (fun _ hq => tJI_bitCount hq) d_X11_now_83 86 rfl kk_B_bitCount q_606 q_601 ⟨rfl, rfl⟩ ⟨Nat.le_of_ble_eq_true rfl, Nat.le_of_ble_eq_true rfl⟩ rfl rfl (Nat.le_of_ble_eq_true rfl) ⟨Nat.zero_le _, Nat.zero_le _⟩ h (fun u_6 h => ?_)
          subst hQ
          obtain rfl := Option.some.inj h
          exact z_iret cx d_X11_now_86 rfl rfl
        · refine ite_c h (fun c_7 h => ?_) (fun c_7 h => ?_)
          · refine y_swIn cx d_X11_now_1 4 (Eq.trans rfl c_7) 87 (by decide) (by decide) rfl (by decide) ?_
            refine z_aload_n cx d_X11_now_87 88 rfl rfl 0 rfl ?_
            refine z_get cx d_X11_now_88 91 rfl e_X rfl zX11 0 (by decide) q_432 rfl rfl ?_
            refine y_callV_i (As := []) (rest := []) (W := fun u_8 => wX g X N T Rd Fr Ac Ch PS Ly Pa OT Ea Ga Im0 Im1 La) (rf := fun u_8 => zI u_8) (rm := zrN_packed) cx (fun _ hq => tN_packed hq) d_X11_now_91 94 rfl kk_X5_packed q_842 q_843 q_844 rfl e_N rfl ⟨rfl, rfl⟩ ⟨Nat.le_of_ble_eq_true rfl, Nat.le_of_ble_eq_true rfl⟩ rfl rfl (Nat.le_of_ble_eq_true rfl) ⟨Nat.zero_le _, Nat.zero_le _⟩ h (fun u_8 h => ?_)
            subst hQ
            obtain rfl := Option.some.inj h
            exact z_iret cx d_X11_now_94 rfl rfl
          · refine ite_c h (fun c_9 h => ?_) (fun c_9 h => ?_)
            · refine y_swIn cx d_X11_now_1 5 (Eq.trans rfl c_9) 95 (by decide) (by decide) rfl (by decide) ?_
              refine z_aload_n cx d_X11_now_95 96 rfl rfl 0 rfl ?_
              refine z_get cx d_X11_now_96 99 rfl e_X rfl zX11 0 (by decide) q_432 rfl rfl ?_
              refine z_aload_n cx d_X11_now_99 100 rfl rfl 0 rfl ?_
              refine z_get cx d_X11_now_100 103 rfl e_X rfl zX11 0 (by decide) q_432 rfl rfl ?_
              refine y_callV_i (As := []) (rest := [.ref (g.2.2 1)]) (W := fun u_10 => wX g X N T Rd Fr Ac Ch PS Ly Pa OT Ea Ga Im0 Im1 La) (rf := fun u_10 => zI u_10) (rm := zr0) cx (fun _ hq => tN_soundSet hq) d_X11_now_103 106 rfl kk_X5_soundSet q_838 q_839 q_840 rfl e_N rfl ⟨rfl, rfl⟩ ⟨Nat.le_of_ble_eq_true rfl, Nat.le_of_ble_eq_true rfl⟩ rfl rfl (Nat.le_of_ble_eq_true rfl) ⟨Nat.zero_le _, Nat.zero_le _⟩ h (fun u_10 h => ?_)
              refine y_callV_i (As := [.int (zI u_10)]) (rest := []) (W := fun u_11 => wX g X N T Rd Fr Ac Ch PS Ly Pa OT Ea Ga Im0 Im1 La) (rf := fun u_11 => zI u_11) (rm := zrN_pieces) cx (fun _ hq => tN_pieces hq) d_X11_now_106 109 rfl kk_X5_pieces q_848 q_849 q_850 rfl e_N rfl ⟨rfl, rfl⟩ ⟨Nat.le_of_ble_eq_true rfl, Nat.le_of_ble_eq_true rfl⟩ rfl rfl (Nat.le_of_ble_eq_true rfl) ⟨Nat.zero_le _, Nat.zero_le _⟩ h (fun u_11 h => ?_)
              subst hQ
              obtain rfl := Option.some.inj h
              exact z_iret cx d_X11_now_109 rfl rfl
            · refine ite_c h (fun c_12 h => ?_) (fun c_12 h => ?_)
              · refine y_swIn cx d_X11_now_1 6 (Eq.trans rfl c_12) 110 (by decide) (by decide) rfl (by decide) ?_
                refine z_aload_n cx d_X11_now_110 111 rfl rfl 0 rfl ?_
                refine z_get cx d_X11_now_111 114 rfl e_X rfl zX11 0 (by decide) q_432 rfl rfl ?_
                refine z_aload_n cx d_X11_now_114 115 rfl rfl 0 rfl ?_
                refine z_get cx d_X11_now_115 118 rfl e_X rfl zX11 0 (by decide) q_432 rfl rfl ?_
                refine y_iconst cx d_X11_now_118 119 rfl ?_
                refine y_callV_i (As := [.int (zI 0)]) (rest := [.ref (g.2.2 1)]) (W := fun u_13 => wX g X N T Rd Fr Ac Ch PS Ly Pa OT Ea Ga Im0 Im1 La) (rf := fun u_13 => zI u_13) (rm := zr0) cx (fun _ hq => tN_forestSet hq) d_X11_now_119 122 rfl kk_X5_forestSet q_479 q_480 q_481 rfl e_N rfl ⟨rfl, rfl⟩ ⟨Nat.le_of_ble_eq_true rfl, Nat.le_of_ble_eq_true rfl⟩ rfl rfl (Nat.le_of_ble_eq_true rfl) ⟨Nat.zero_le _, Nat.zero_le _⟩ h (fun u_13 h => ?_)
                refine y_callV_i (As := [.int (zI u_13)]) (rest := []) (W := fun u_14 => wX g X N T Rd Fr Ac Ch PS Ly Pa OT Ea Ga Im0 Im1 La) (rf := fun u_14 => zI u_14) (rm := zrN_pieces) cx (fun _ hq => tN_pieces hq) d_X11_now_122 125 rfl kk_X5_pieces q_848 q_849 q_850 rfl e_N rfl ⟨rfl, rfl⟩ ⟨Nat.le_of_ble_eq_true rfl, Nat.le_of_ble_eq_true rfl⟩ rfl rfl (Nat.le_of_ble_eq_true rfl) ⟨Nat.zero_le _, Nat.zero_le _⟩ h (fun u_14 h => ?_)
                subst hQ
                obtain rfl := Option.some.inj h
                exact z_iret cx d_X11_now_125 rfl rfl
              · refine ite_c h (fun c_15 h => ?_) (fun c_15 h => ?_)
                · refine y_swIn cx d_X11_now_1 7 (Eq.trans rfl c_15) 126 (by decide) (by decide) rfl (by decide) ?_
                  refine z_aload_n cx d_X11_now_126 127 rfl rfl 0 rfl ?_
                  refine z_get cx d_X11_now_127 130 rfl e_X rfl zX11 3 (by decide) q_435 rfl rfl ?_
                  refine y_callV_i (As := []) (rest := []) (W := fun u_16 => wX g X N T Rd Fr Ac Ch PS Ly Pa OT Ea Ga Im0 Im1 La) (rf := fun u_16 => zI u_16) (rm := zr0) cx (fun _ hq => tAc_count hq) d_X11_now_130 133 rfl kk_X0_count q_857 q_858 q_859 rfl e_Ac rfl ⟨rfl, rfl⟩ ⟨Nat.le_of_ble_eq_true rfl, Nat.le_of_ble_eq_true rfl⟩ rfl rfl (Nat.le_of_ble_eq_true rfl) ⟨Nat.zero_le _, Nat.zero_le _⟩ h (fun u_16 h => ?_)
                  subst hQ
                  obtain rfl := Option.some.inj h
                  exact z_iret cx d_X11_now_133 rfl rfl
                · refine ite_c h (fun c_17 h => ?_) (fun c_17 h => ?_)
                  · refine y_swIn cx d_X11_now_1 8 (Eq.trans rfl c_17) 134 (by decide) (by decide) rfl (by decide) ?_
                    refine z_aload_n cx d_X11_now_134 135 rfl rfl 0 rfl ?_
                    refine z_get cx d_X11_now_135 138 rfl e_X rfl zX11 1 (by decide) q_433 rfl rfl ?_
                    refine y_callV_i (As := []) (rest := []) (W := fun u_18 => wX g X N T Rd Fr Ac Ch PS Ly Pa OT Ea Ga Im0 Im1 La) (rf := fun u_18 => zI u_18) (rm := zr0) cx (fun _ hq => tT_size hq) d_X11_now_138 141 rfl kk_X10_size q_714 q_715 q_716 rfl e_T rfl ⟨rfl, rfl⟩ ⟨Nat.le_of_ble_eq_true rfl, Nat.le_of_ble_eq_true rfl⟩ rfl rfl (Nat.le_of_ble_eq_true rfl) ⟨Nat.zero_le _, Nat.zero_le _⟩ h (fun u_18 h => ?_)
                    subst hQ
                    obtain rfl := Option.some.inj h
                    exact z_iret cx d_X11_now_141 rfl rfl
                  · refine y_swOut cx d_X11_now_1 (by omega) 142 (by decide) ?_
                    refine y_iconst cx d_X11_now_142 143 rfl ?_
                    subst hQ
                    obtain rfl := Option.some.inj h
                    exact z_iret cx d_X11_now_143 rfl rfl
def zrX_whyNotPut : Room := { frames := 2, cells := 0, slots := 0, locals := 54 }
set_option maxHeartbeats 4000000 in
theorem tX_whyNotPut {l : Launch} {g : ZG} {X : ZB} {N : ZB} {T : ZB} {Rd : ZB} {Fr : ZB} {Ac : ZA} {Ch : ZB} {PS : ZB} {Ly : ZB} {Pa : ZQ} {OT : ZB} {Ea : ZB} {Ga : ZB} {Im0 : ZO} {Im1 : ZO} {La : ZB} {a1 : Int} {a2 : Int} {r : Int × ZB} (h : fX_whyNotPut N Ch a1 a2 = some r) : zMi l yX11_whyNotPut cX11_whyNotPut 3 (some .int) zrX_whyNotPut g [.ref (g.2.2 0), .int (zI a1), .int (zI a2)] (wX g X N T Rd Fr Ac Ch PS Ly Pa OT Ea Ga Im0 Im1 La) (wX g X N T Rd Fr Ac r.2 PS Ly Pa OT Ea Ga Im0 Im1 La) (zI r.1) := by
  unfold fX_whyNotPut at h
  refine zMi_q (own := RX11) rfl (by decide +kernel) (Nat.le_of_ble_eq_true rfl) (lv := [(0, .ref (g.2.2 0)), (1, .int (zI a1)), (2, .int (zI a2))]) rfl ⟨rfl, rfl⟩ ?_
  intro p e s m args below meth c A Q hQ cx
  refine z_aload_n cx d_X11_whyNotPut_0 1 rfl rfl 0 rfl ?_
  refine z_get cx d_X11_whyNotPut_1 4 rfl e_X rfl zX11 0 (by decide) q_432 rfl rfl ?_
  refine z_iload_n cx d_X11_whyNotPut_4 5 rfl rfl 1 rfl ?_
  refine y_callV_i (As := [.int (zI a1)]) (rest := []) (W := fun u_1 => wX g X N T Rd Fr Ac Ch PS Ly Pa OT Ea Ga Im0 Im1 La) (rf := fun u_1 => zI u_1) (rm := zr0) cx (fun _ hq => tN_isSound hq) d_X11_whyNotPut_5 8 rfl kk_X5_isSound q_495 q_496 q_497 rfl e_N rfl ⟨rfl, rfl⟩ ⟨Nat.le_of_ble_eq_true rfl, Nat.le_of_ble_eq_true rfl⟩ rfl rfl (Nat.le_of_ble_eq_true rfl) ⟨Nat.zero_le _, Nat.zero_le _⟩ h (fun u_1 h => ?_)
  refine y_if_ne cx d_X11_whyNotPut_8 11 rfl 13 (by decide) rfl h (fun h => ?_) (fun h => ?_)
  · refine z_aload_n cx d_X11_whyNotPut_13 14 rfl rfl 0 rfl ?_
    refine z_get cx d_X11_whyNotPut_14 17 rfl e_X rfl zX11 0 (by decide) q_432 rfl rfl ?_
    refine z_get cx d_X11_whyNotPut_17 20 rfl e_N rfl zX5 3 (by decide) q_76 rfl rfl ?_
    refine z_iload_n cx d_X11_whyNotPut_20 21 rfl rfl 1 rfl ?_
    refine y_ialdx cx d_X11_whyNotPut_21 22 rfl e_N_home (by decide) h (fun x_2 h => ?_)
    refine y_iconst cx d_X11_whyNotPut_22 23 rfl ?_
    refine y_icmp_eq cx d_X11_whyNotPut_23 26 rfl 28 (by decide) rfl (nm_eq (x := (-1)) (by decide) (by decide)) h (fun h => ?_) (fun h => ?_)
    · refine z_aload_n cx d_X11_whyNotPut_28 29 rfl rfl 0 rfl ?_
      refine z_get cx d_X11_whyNotPut_29 32 rfl e_X rfl zX11 4 (by decide) q_436 rfl rfl ?_
      refine z_iload_n cx d_X11_whyNotPut_32 33 rfl rfl 1 rfl ?_
      refine z_iload_n cx d_X11_whyNotPut_33 34 rfl rfl 2 rfl ?_
      refine y_callV_i (As := [.int (zI a1), .int (zI a2)]) (rest := []) (W := fun u_3 => wX g X N T Rd Fr Ac u_3.2 PS Ly Pa OT Ea Ga Im0 Im1 La) (rf := fun u_3 => zI u_3.1) (rm := zrCh_ringOf) cx (fun _ hq => tCh_ringOf hq) d_X11_whyNotPut_34 37 rfl kk_X1_ringOf q_499 q_500 q_501 rfl e_Ch rfl ⟨rfl, rfl⟩ ⟨Nat.le_of_ble_eq_true rfl, Nat.le_of_ble_eq_true rfl⟩ rfl rfl (Nat.le_of_ble_eq_true rfl) ⟨Nat.zero_le _, Nat.zero_le _⟩ h (fun u_3 h => ?_)
      refine kf1_f (P := fun (w0_4 : Int) => V p l e zrX_whyNotPut s m args below meth c A s.heap g 3 Q (wX g X N T Rd Fr Ac u_3.2 PS Ly Pa OT Ea Ga Im0 Im1 La) 0 0 [] 45 [.int (zI w0_4)]) h (fun w0_4 h => ?_) (fun k_5 hk_5 h => ?_)
      · subst hQ
        obtain rfl := Option.some.inj h
        exact z_iret cx d_X11_whyNotPut_45 rfl rfl
      refine y_if_eq cx d_X11_whyNotPut_37 40 rfl 44 (by decide) rfl h (fun h => ?_) (fun h => ?_)
      · refine y_iconst cx d_X11_whyNotPut_44 45 rfl ?_
        refine z_sub [] rfl ?_
        exact hk_5 _ h
      · refine y_iconst cx d_X11_whyNotPut_40 41 rfl ?_
        refine z_goto cx d_X11_whyNotPut_41 45 (by decide) ?_
        refine z_sub [] rfl ?_
        exact hk_5 _ h
    · refine y_iconst cx d_X11_whyNotPut_26 27 rfl ?_
      subst hQ
      obtain rfl := Option.some.inj h
      exact z_iret cx d_X11_whyNotPut_27 rfl rfl
  · refine y_iconst cx d_X11_whyNotPut_11 12 rfl ?_
    subst hQ
    obtain rfl := Option.some.inj h
    exact z_iret cx d_X11_whyNotPut_12 rfl rfl
def zrX_put : Room := { frames := 4, cells := 0, slots := 0, locals := 140 }
set_option maxHeartbeats 4000000 in
theorem tX_put {l : Launch} {g : ZG} {X : ZB} {N : ZB} {T : ZB} {Rd : ZB} {Fr : ZB} {Ac : ZA} {Ch : ZB} {PS : ZB} {Ly : ZB} {Pa : ZQ} {OT : ZB} {Ea : ZB} {Ga : ZB} {Im0 : ZO} {Im1 : ZO} {La : ZB} {a1 : Int} {a2 : Int} {r : Int × ZB × ZA × ZB} (h : fX_put N Ac Ch a1 a2 = some r) : zMi l yX11_put cX11_put 4 (some .int) zrX_put g [.ref (g.2.2 0), .int (zI a1), .int (zI a2)] (wX g X N T Rd Fr Ac Ch PS Ly Pa OT Ea Ga Im0 Im1 La) (wX g X r.2.1 T Rd Fr r.2.2.1 r.2.2.2 PS Ly Pa OT Ea Ga Im0 Im1 La) (zI r.1) := by
  unfold fX_put at h
  refine zMi_q (own := RX11) rfl (by decide +kernel) (Nat.le_of_ble_eq_true rfl) (lv := [(0, .ref (g.2.2 0)), (1, .int (zI a1)), (2, .int (zI a2))]) rfl ⟨rfl, rfl⟩ ?_
  intro p e s m args below meth c A Q hQ cx
  refine z_aload_n cx d_X11_put_0 1 rfl rfl 0 rfl ?_
  refine z_get cx d_X11_put_1 4 rfl e_X rfl zX11 0 (by decide) q_432 rfl rfl ?_
  refine z_iload_n cx d_X11_put_4 5 rfl rfl 1 rfl ?_
  refine y_callV_i (As := [.int (zI a1)]) (rest := []) (W := fun u_1 => wX g X N T Rd Fr Ac Ch PS Ly Pa OT Ea Ga Im0 Im1 La) (rf := fun u_1 => zI u_1) (rm := zr0) cx (fun _ hq => tN_hasLine hq) d_X11_put_5 8 rfl kk_X5_hasLine q_487 q_488 q_489 rfl e_N rfl ⟨rfl, rfl⟩ ⟨Nat.le_of_ble_eq_true rfl, Nat.le_of_ble_eq_true rfl⟩ rfl rfl (Nat.le_of_ble_eq_true rfl) ⟨Nat.zero_le _, Nat.zero_le _⟩ h (fun u_1 h => ?_)
  refine kf0_f (P := V p l e zrX_put s m args below meth c A s.heap g 4 Q (wX g X N T Rd Fr Ac Ch PS Ly Pa OT Ea Ga Im0 Im1 La) 0 0 [] 22 []) h (fun h => ?_) (fun k_2 hk_2 h => ?_)
  · refine y_iconst cx d_X11_put_22 23 rfl ?_
    subst hQ
    obtain rfl := Option.some.inj h
    exact z_iret cx d_X11_put_23 rfl rfl
  refine y_if_eq cx d_X11_put_8 11 rfl 22 (by decide) rfl h (fun h => ?_) (fun h => ?_)
  · refine z_sub [] rfl ?_
    exact hk_2  h
  · refine z_aload_n cx d_X11_put_11 12 rfl rfl 0 rfl ?_
    refine z_get cx d_X11_put_12 15 rfl e_X rfl zX11 0 (by decide) q_432 rfl rfl ?_
    refine z_iload_n cx d_X11_put_15 16 rfl rfl 2 rfl ?_
    refine y_callV_i (As := [.int (zI a2)]) (rest := []) (W := fun u_3 => wX g X N T Rd Fr Ac Ch PS Ly Pa OT Ea Ga Im0 Im1 La) (rf := fun u_3 => zI u_3) (rm := zr0) cx (fun _ hq => tN_hasForest hq) d_X11_put_16 19 rfl kk_X5_hasForest q_475 q_476 q_477 rfl e_N rfl ⟨rfl, rfl⟩ ⟨Nat.le_of_ble_eq_true rfl, Nat.le_of_ble_eq_true rfl⟩ rfl rfl (Nat.le_of_ble_eq_true rfl) ⟨Nat.zero_le _, Nat.zero_le _⟩ h (fun u_3 h => ?_)
    refine y_if_ne cx d_X11_put_19 22 rfl 24 (by decide) rfl h (fun h => ?_) (fun h => ?_)
    · refine z_aload_n cx d_X11_put_24 25 rfl rfl 0 rfl ?_
      refine z_iload_n cx d_X11_put_25 26 rfl rfl 1 rfl ?_
      refine z_iload_n cx d_X11_put_26 27 rfl rfl 2 rfl ?_
      refine y_callV_i (As := [.int (zI a1), .int (zI a2)]) (rest := []) (W := fun u_4 => wX g X N T Rd Fr Ac u_4.2 PS Ly Pa OT Ea Ga Im0 Im1 La) (rf := fun u_4 => zI u_4.1) (rm := zrX_whyNotPut) cx (fun _ hq => tX_whyNotPut hq) d_X11_put_27 30 rfl kk_X11_whyNotPut q_491 q_493 q_0 rfl e_X rfl ⟨rfl, rfl⟩ ⟨Nat.le_of_ble_eq_true rfl, Nat.le_of_ble_eq_true rfl⟩ rfl rfl (Nat.le_of_ble_eq_true rfl) ⟨Nat.zero_le _, Nat.zero_le _⟩ h (fun u_4 h => ?_)
      refine y_istore_n cx d_X11_put_30 31 rfl rfl (by decide) (lv' := [(3, .int (zI u_4.1)), (0, .ref (g.2.2 0)), (1, .int (zI a1)), (2, .int (zI a2))]) rfl ?_
      refine z_iload_n cx d_X11_put_31 32 rfl rfl 0 rfl ?_
      refine kf2_f (P := fun (N_5 : ZB) (Ac_6 : ZA) => V p l e zrX_put s m args below meth c A s.heap g 4 Q (wX g X N_5 T Rd Fr Ac_6 u_4.2 PS Ly Pa OT Ea Ga Im0 Im1 La) 0 0 [(3, .int (zI u_4.1))] 59 []) h (fun N_5 Ac_6 h => ?_) (fun k_7 hk_7 h => ?_)
      · refine z_iload_n cx d_X11_put_59 60 rfl rfl 0 rfl ?_
        subst hQ
        obtain rfl := Option.some.inj h
        exact z_iret cx d_X11_put_60 rfl rfl
      refine y_if_ne cx d_X11_put_32 35 rfl 59 (by decide) rfl h (fun h => ?_) (fun h => ?_)
      · refine z_sub [0] rfl ?_
        exact hk_7 _ _ h
      · refine z_aload_n cx d_X11_put_35 36 rfl rfl 1 rfl ?_
        refine z_get cx d_X11_put_36 39 rfl e_X rfl zX11 3 (by decide) q_435 rfl rfl ?_
        refine y_callV_v (As := []) (rest := []) (W := fun u_8 => wX g X N T Rd Fr u_8 u_4.2 PS Ly Pa OT Ea Ga Im0 Im1 La) (rm := zrAc_before) cx (fun _ hq => tAc_before hq) d_X11_put_39 42 rfl kk_X0_before q_507 q_508 q_509 rfl e_Ac rfl ⟨rfl, rfl⟩ ⟨Nat.le_of_ble_eq_true rfl, Nat.le_of_ble_eq_true rfl⟩ rfl rfl (Nat.le_of_ble_eq_true rfl) ⟨Nat.zero_le _, Nat.zero_le _⟩ h (fun u_8 h => ?_)
        refine z_aload_n cx d_X11_put_42 43 rfl rfl 1 rfl ?_
        refine z_get cx d_X11_put_43 46 rfl e_X rfl zX11 0 (by decide) q_432 rfl rfl ?_
        refine z_get cx d_X11_put_46 49 rfl e_N rfl zX5 3 (by decide) q_76 rfl rfl ?_
        refine z_iload_n cx d_X11_put_49 50 rfl rfl 2 rfl ?_
        refine z_iload_n cx d_X11_put_50 51 rfl rfl 3 rfl ?_
        refine y_iast cx d_X11_put_51 52 rfl e_N_home (by decide) h (fun _ h9 => s_N_home h9) (fun N_9 h => ?_)
        refine z_aload_n cx d_X11_put_52 53 rfl rfl 1 rfl ?_
        refine z_get cx d_X11_put_53 56 rfl e_X rfl zX11 3 (by decide) q_435 rfl rfl ?_
        refine y_callV_v (As := []) (rest := []) (W := fun u_10 => wX g X N_9 T Rd Fr u_10 u_4.2 PS Ly Pa OT Ea Ga Im0 Im1 La) (rm := zr0) cx (fun _ hq => tAc_done hq) d_X11_put_56 59 rfl kk_X0_done q_518 q_519 q_520 rfl e_Ac rfl ⟨rfl, rfl⟩ ⟨Nat.le_of_ble_eq_true rfl, Nat.le_of_ble_eq_true rfl⟩ rfl rfl (Nat.le_of_ble_eq_true rfl) ⟨Nat.zero_le _, Nat.zero_le _⟩ h (fun u_10 h => ?_)
        refine z_sub [0] rfl ?_
        exact hk_7 _ _ h
    · refine z_sub [] rfl ?_
      exact hk_2  h
def zrX_lift : Room := { frames := 4, cells := 0, slots := 0, locals := 140 }
set_option maxHeartbeats 4000000 in
theorem tX_lift {l : Launch} {g : ZG} {X : ZB} {N : ZB} {T : ZB} {Rd : ZB} {Fr : ZB} {Ac : ZA} {Ch : ZB} {PS : ZB} {Ly : ZB} {Pa : ZQ} {OT : ZB} {Ea : ZB} {Ga : ZB} {Im0 : ZO} {Im1 : ZO} {La : ZB} {a1 : Int} {r : Int × ZB × ZA} (h : fX_lift N Ac a1 = some r) : zMi l yX11_lift cX11_lift 3 (some .int) zrX_lift g [.ref (g.2.2 0), .int (zI a1)] (wX g X N T Rd Fr Ac Ch PS Ly Pa OT Ea Ga Im0 Im1 La) (wX g X r.2.1 T Rd Fr r.2.2 Ch PS Ly Pa OT Ea Ga Im0 Im1 La) (zI r.1) := by
  unfold fX_lift at h
  refine zMi_q (own := RX11) rfl (by decide +kernel) (Nat.le_of_ble_eq_true rfl) (lv := [(0, .ref (g.2.2 0)), (1, .int (zI a1))]) rfl ⟨rfl, rfl⟩ ?_
  intro p e s m args below meth c A Q hQ cx
  refine z_aload_n cx d_X11_lift_0 1 rfl rfl 0 rfl ?_
  refine z_get cx d_X11_lift_1 4 rfl e_X rfl zX11 0 (by decide) q_432 rfl rfl ?_
  refine z_iload_n cx d_X11_lift_4 5 rfl rfl 1 rfl ?_
  refine y_callV_i (As := [.int (zI a1)]) (rest := []) (W := fun u_1 => wX g X N T Rd Fr Ac Ch PS Ly Pa OT Ea Ga Im0 Im1 La) (rf := fun u_1 => zI u_1) (rm := zr0) cx (fun _ hq => tN_hasLine hq) d_X11_lift_5 8 rfl kk_X5_hasLine q_487 q_488 q_489 rfl e_N rfl ⟨rfl, rfl⟩ ⟨Nat.le_of_ble_eq_true rfl, Nat.le_of_ble_eq_true rfl⟩ rfl rfl (Nat.le_of_ble_eq_true rfl) ⟨Nat.zero_le _, Nat.zero_le _⟩ h (fun u_1 h => ?_)
  refine kf0_f (P := V p l e zrX_lift s m args below meth c A s.heap g 3 Q (wX g X N T Rd Fr Ac Ch PS Ly Pa OT Ea Ga Im0 Im1 La) 0 0 [] 24 []) h (fun h => ?_) (fun k_2 hk_2 h => ?_)
  · refine y_iconst cx d_X11_lift_24 25 rfl ?_
    subst hQ
    obtain rfl := Option.some.inj h
    exact z_iret cx d_X11_lift_25 rfl rfl
  refine y_if_eq cx d_X11_lift_8 11 rfl 24 (by decide) rfl h (fun h => ?_) (fun h => ?_)
  · refine z_sub [] rfl ?_
    exact hk_2  h
  · refine z_aload_n cx d_X11_lift_11 12 rfl rfl 0 rfl ?_
    refine z_get cx d_X11_lift_12 15 rfl e_X rfl zX11 0 (by decide) q_432 rfl rfl ?_
    refine z_get cx d_X11_lift_15 18 rfl e_N rfl zX5 3 (by decide) q_76 rfl rfl ?_
    refine z_iload_n cx d_X11_lift_18 19 rfl rfl 1 rfl ?_
    refine y_ialdx cx d_X11_lift_19 20 rfl e_N_home (by decide) h (fun x_3 h => ?_)
    refine y_iconst cx d_X11_lift_20 21 rfl ?_
    refine y_icmp_ne cx d_X11_lift_21 24 rfl 26 (by decide) rfl (nm_eq (x := (-1)) (by decide) (by decide)) h (fun h => ?_) (fun h => ?_)
    · refine z_aload_n cx d_X11_lift_26 27 rfl rfl 0 rfl ?_
      refine z_get cx d_X11_lift_27 30 rfl e_X rfl zX11 3 (by decide) q_435 rfl rfl ?_
      refine y_callV_v (As := []) (rest := []) (W := fun u_4 => wX g X N T Rd Fr u_4 Ch PS Ly Pa OT Ea Ga Im0 Im1 La) (rm := zrAc_before) cx (fun _ hq => tAc_before hq) d_X11_lift_30 33 rfl kk_X0_before q_507 q_508 q_509 rfl e_Ac rfl ⟨rfl, rfl⟩ ⟨Nat.le_of_ble_eq_true rfl, Nat.le_of_ble_eq_true rfl⟩ rfl rfl (Nat.le_of_ble_eq_true rfl) ⟨Nat.zero_le _, Nat.zero_le _⟩ h (fun u_4 h => ?_)
      refine z_aload_n cx d_X11_lift_33 34 rfl rfl 0 rfl ?_
      refine z_get cx d_X11_lift_34 37 rfl e_X rfl zX11 0 (by decide) q_432 rfl rfl ?_
      refine z_get cx d_X11_lift_37 40 rfl e_N rfl zX5 3 (by decide) q_76 rfl rfl ?_
      refine z_iload_n cx d_X11_lift_40 41 rfl rfl 1 rfl ?_
      refine y_ialdx cx d_X11_lift_41 42 rfl e_N_home (by decide) h (fun x_5 h => ?_)
      refine y_istore_n cx d_X11_lift_42 43 rfl rfl (by decide) (lv' := [(2, .int (zI x_5)), (0, .ref (g.2.2 0)), (1, .int (zI a1))]) rfl ?_
      refine z_aload_n cx d_X11_lift_43 44 rfl rfl 1 rfl ?_
      refine z_get cx d_X11_lift_44 47 rfl e_X rfl zX11 0 (by decide) q_432 rfl rfl ?_
      refine z_get cx d_X11_lift_47 50 rfl e_N rfl zX5 3 (by decide) q_76 rfl rfl ?_
      refine z_iload_n cx d_X11_lift_50 51 rfl rfl 2 rfl ?_
      refine y_iconst cx d_X11_lift_51 52 rfl ?_
      refine y_iast cx d_X11_lift_52 53 rfl e_N_home (by decide) h (fun _ h9 => s_N_home h9) (fun N_6 h => ?_)
      refine z_aload_n cx d_X11_lift_53 54 rfl rfl 1 rfl ?_
      refine z_get cx d_X11_lift_54 57 rfl e_X rfl zX11 3 (by decide) q_435 rfl rfl ?_
      refine y_callV_v (As := []) (rest := []) (W := fun u_7 => wX g X N_6 T Rd Fr u_7 Ch PS Ly Pa OT Ea Ga Im0 Im1 La) (rm := zr0) cx (fun _ hq => tAc_done hq) d_X11_lift_57 60 rfl kk_X0_done q_518 q_519 q_520 rfl e_Ac rfl ⟨rfl, rfl⟩ ⟨Nat.le_of_ble_eq_true rfl, Nat.le_of_ble_eq_true rfl⟩ rfl rfl (Nat.le_of_ble_eq_true rfl) ⟨Nat.zero_le _, Nat.zero_le _⟩ h (fun u_7 h => ?_)
      refine z_iload_n cx d_X11_lift_60 61 rfl rfl 0 rfl ?_
      subst hQ
      obtain rfl := Option.some.inj h
      exact z_iret cx d_X11_lift_61 rfl rfl
    · refine z_sub [] rfl ?_
      exact hk_2  h
def zrX_canBePlaced : Room := { frames := 1, cells := 0, slots := 0, locals := 21 }
set_option maxHeartbeats 4000000 in
theorem tX_canBePlaced {l : Launch} {g : ZG} {X : ZB} {N : ZB} {T : ZB} {Rd : ZB} {Fr : ZB} {Ac : ZA} {Ch : ZB} {PS : ZB} {Ly : ZB} {Pa : ZQ} {OT : ZB} {Ea : ZB} {Ga : ZB} {Im0 : ZO} {Im1 : ZO} {La : ZB} {a1 : Int} {r : Int} (h : fX_canBePlaced N a1 = some r) : zMi l yX11_canBePlaced cX11_canBePlaced 2 (some .boolean) zrX_canBePlaced g [.ref (g.2.2 0), .int (zI a1)] (wX g X N T Rd Fr Ac Ch PS Ly Pa OT Ea Ga Im0 Im1 La) (wX g X N T Rd Fr Ac Ch PS Ly Pa OT Ea Ga Im0 Im1 La) (zI r) := by
  unfold fX_canBePlaced at h
  refine zMi_q (own := RX11) rfl (by decide +kernel) (Nat.le_of_ble_eq_true rfl) (lv := [(0, .ref (g.2.2 0)), (1, .int (zI a1))]) rfl ⟨rfl, rfl⟩ ?_
  intro p e s m args below meth c A Q hQ cx
  refine z_aload_n cx d_X11_canBePlaced_0 1 rfl rfl 0 rfl ?_
  refine z_get cx d_X11_canBePlaced_1 4 rfl e_X rfl zX11 0 (by decide) q_432 rfl rfl ?_
  refine z_iload_n cx d_X11_canBePlaced_4 5 rfl rfl 1 rfl ?_
  refine y_callV_i (As := [.int (zI a1)]) (rest := []) (W := fun u_1 => wX g X N T Rd Fr Ac Ch PS Ly Pa OT Ea Ga Im0 Im1 La) (rf := fun u_1 => zI u_1) (rm := zr0) cx (fun _ hq => tN_hasLine hq) d_X11_canBePlaced_5 8 rfl kk_X5_hasLine q_487 q_488 q_489 rfl e_N rfl ⟨rfl, rfl⟩ ⟨Nat.le_of_ble_eq_true rfl, Nat.le_of_ble_eq_true rfl⟩ rfl rfl (Nat.le_of_ble_eq_true rfl) ⟨Nat.zero_le _, Nat.zero_le _⟩ h (fun u_1 h => ?_)
  refine kf1_f (P := fun (w0_2 : Int) => V p l e zrX_canBePlaced s m args below meth c A s.heap g 2 Q (wX g X N T Rd Fr Ac Ch PS Ly Pa OT Ea Ga Im0 Im1 La) 0 0 [] 40 [.int (zI w0_2)]) h (fun w0_2 h => ?_) (fun k_3 hk_3 h => ?_)
  · obtain ⟨hz, h⟩ := zo_i h
    subst hQ
    obtain rfl := Option.some.inj h
    exact z_zret cx d_X11_canBePlaced_40 (zb01 hz) rfl rfl
  refine kf0_f (P := V p l e zrX_canBePlaced s m args below meth c A s.heap g 2 Q (wX g X N T Rd Fr Ac Ch PS Ly Pa OT Ea Ga Im0 Im1 La) 0 0 [] 39 []) h (fun h => ?_) (fun k_4 hk_4 h => ?_)
  · refine y_iconst cx d_X11_canBePlaced_39 40 rfl ?_
    exact hk_3 _ h
  refine y_if_eq cx d_X11_canBePlaced_8 11 rfl 39 (by decide) rfl h (fun h => ?_) (fun h => ?_)
  · refine z_sub [] rfl ?_
    exact hk_4  h
  · refine z_aload_n cx d_X11_canBePlaced_11 12 rfl rfl 0 rfl ?_
    refine z_get cx d_X11_canBePlaced_12 15 rfl e_X rfl zX11 0 (by decide) q_432 rfl rfl ?_
    refine z_iload_n cx d_X11_canBePlaced_15 16 rfl rfl 1 rfl ?_
    refine y_callV_i (As := [.int (zI a1)]) (rest := []) (W := fun u_5 => wX g X N T Rd Fr Ac Ch PS Ly Pa OT Ea Ga Im0 Im1 La) (rf := fun u_5 => zI u_5) (rm := zr0) cx (fun _ hq => tN_isSound hq) d_X11_canBePlaced_16 19 rfl kk_X5_isSound q_495 q_496 q_497 rfl e_N rfl ⟨rfl, rfl⟩ ⟨Nat.le_of_ble_eq_true rfl, Nat.le_of_ble_eq_true rfl⟩ rfl rfl (Nat.le_of_ble_eq_true rfl) ⟨Nat.zero_le _, Nat.zero_le _⟩ h (fun u_5 h => ?_)
    refine y_if_eq cx d_X11_canBePlaced_19 22 rfl 39 (by decide) rfl h (fun h => ?_) (fun h => ?_)
    · refine z_sub [] rfl ?_
      exact hk_4  h
    · refine z_aload_n cx d_X11_canBePlaced_22 23 rfl rfl 0 rfl ?_
      refine z_get cx d_X11_canBePlaced_23 26 rfl e_X rfl zX11 0 (by decide) q_432 rfl rfl ?_
      refine z_get cx d_X11_canBePlaced_26 29 rfl e_N rfl zX5 3 (by decide) q_76 rfl rfl ?_
      refine z_iload_n cx d_X11_canBePlaced_29 30 rfl rfl 1 rfl ?_
      refine y_ialdx cx d_X11_canBePlaced_30 31 rfl e_N_home (by decide) h (fun x_6 h => ?_)
      refine y_iconst cx d_X11_canBePlaced_31 32 rfl ?_
      refine y_icmp_ne cx d_X11_canBePlaced_32 35 rfl 39 (by decide) rfl (nm_eq (x := (-1)) (by decide) (by decide)) h (fun h => ?_) (fun h => ?_)
      · refine z_sub [] rfl ?_
        exact hk_4  h
      · refine y_iconst cx d_X11_canBePlaced_35 36 rfl ?_
        refine z_goto cx d_X11_canBePlaced_36 40 (by decide) ?_
        refine z_sub [] rfl ?_
        exact hk_3 _ h
def zrX_place : Room := { frames := 4, cells := 0, slots := 0, locals := 140 }
set_option maxHeartbeats 4000000 in
theorem tX_place {l : Launch} {g : ZG} {X : ZB} {N : ZB} {T : ZB} {Rd : ZB} {Fr : ZB} {Ac : ZA} {Ch : ZB} {PS : ZB} {Ly : ZB} {Pa : ZQ} {OT : ZB} {Ea : ZB} {Ga : ZB} {Im0 : ZO} {Im1 : ZO} {La : ZB} {a1 : Int} {r : Int × ZB × ZA × ZB} (h : fX_place N Ac Ch a1 = some r) : zMi l yX11_place cX11_place 3 (some .int) zrX_place g [.ref (g.2.2 0), .int (zI a1)] (wX g X N T Rd Fr Ac Ch PS Ly Pa OT Ea Ga Im0 Im1 La) (wX g X r.2.1 T Rd Fr r.2.2.1 r.2.2.2 PS Ly Pa OT Ea Ga Im0 Im1 La) (zI r.1) := by
  unfold fX_place at h
  refine zMi_q (own := RX11) rfl (by decide +kernel) (Nat.le_of_ble_eq_true rfl) (lv := [(0, .ref (g.2.2 0)), (1, .int (zI a1))]) rfl ⟨rfl, rfl⟩ ?_
  intro p e s m args below meth c A Q hQ cx
  refine z_aload_n cx d_X11_place_0 1 rfl rfl 0 rfl ?_
  refine z_iload_n cx d_X11_place_1 2 rfl rfl 1 rfl ?_
  refine y_callV_i (As := [.int (zI a1)]) (rest := []) (W := fun u_1 => wX g X N T Rd Fr Ac Ch PS Ly Pa OT Ea Ga Im0 Im1 La) (rf := fun u_1 => zI u_1) (rm := zrX_canBePlaced) cx (fun _ hq => tX_canBePlaced hq) d_X11_place_2 5 rfl kk_X11_canBePlaced q_530 q_532 q_2 rfl e_X rfl ⟨rfl, rfl⟩ ⟨Nat.le_of_ble_eq_true rfl, Nat.le_of_ble_eq_true rfl⟩ rfl rfl (Nat.le_of_ble_eq_true rfl) ⟨Nat.zero_le _, Nat.zero_le _⟩ h (fun u_1 h => ?_)
  refine y_if_ne cx d_X11_place_5 8 rfl 10 (by decide) rfl h (fun h => ?_) (fun h => ?_)
  · refine z_aload_n cx d_X11_place_10 11 rfl rfl 0 rfl ?_
    refine z_get cx d_X11_place_11 14 rfl e_X rfl zX11 4 (by decide) q_436 rfl rfl ?_
    refine z_iload_n cx d_X11_place_14 15 rfl rfl 1 rfl ?_
    refine y_callV_i (As := [.int (zI a1)]) (rest := []) (W := fun u_2 => wX g X N T Rd Fr Ac u_2.2 PS Ly Pa OT Ea Ga Im0 Im1 La) (rf := fun u_2 => zI u_2.1) (rm := zrCh_find) cx (fun _ hq => tCh_find hq) d_X11_place_15 18 rfl kk_X1_find q_534 q_535 q_536 rfl e_Ch rfl ⟨rfl, rfl⟩ ⟨Nat.le_of_ble_eq_true rfl, Nat.le_of_ble_eq_true rfl⟩ rfl rfl (Nat.le_of_ble_eq_true rfl) ⟨Nat.zero_le _, Nat.zero_le _⟩ h (fun u_2 h => ?_)
    refine y_istore_n cx d_X11_place_18 19 rfl rfl (by decide) (lv' := [(2, .int (zI u_2.1)), (0, .ref (g.2.2 0)), (1, .int (zI a1))]) rfl ?_
    refine z_aload_n cx d_X11_place_19 20 rfl rfl 1 rfl ?_
    refine z_get cx d_X11_place_20 23 rfl e_X rfl zX11 4 (by decide) q_436 rfl rfl ?_
    refine y_callV_v (As := []) (rest := []) (W := fun u_3 => wX g X N T Rd Fr Ac u_3 PS Ly Pa OT Ea Ga Im0 Im1 La) (rm := zrCh_remember) cx (fun _ hq => tCh_remember hq) d_X11_place_23 26 rfl kk_X1_remember q_892 q_893 q_894 rfl e_Ch rfl ⟨rfl, rfl⟩ ⟨Nat.le_of_ble_eq_true rfl, Nat.le_of_ble_eq_true rfl⟩ rfl rfl (Nat.le_of_ble_eq_true rfl) ⟨Nat.zero_le _, Nat.zero_le _⟩ h (fun u_3 h => ?_)
    refine z_iload_n cx d_X11_place_26 27 rfl rfl 0 rfl ?_
    refine kf2_f (P := fun (N_4 : ZB) (Ac_5 : ZA) => V p l e zrX_place s m args below meth c A s.heap g 3 Q (wX g X N_4 T Rd Fr Ac_5 u_3 PS Ly Pa OT Ea Ga Im0 Im1 La) 0 0 [(2, .int (zI u_2.1))] 51 []) h (fun N_4 Ac_5 h => ?_) (fun k_6 hk_6 h => ?_)
    · refine z_iload_n cx d_X11_place_51 52 rfl rfl 0 rfl ?_
      subst hQ
      obtain rfl := Option.some.inj h
      exact z_iret cx d_X11_place_52 rfl rfl
    refine y_if_le cx d_X11_place_27 30 rfl 51 (by decide) rfl h (fun h => ?_) (fun h => ?_)
    · refine z_sub [0] rfl ?_
      exact hk_6 _ _ h
    · refine z_aload_n cx d_X11_place_30 31 rfl rfl 1 rfl ?_
      refine z_get cx d_X11_place_31 34 rfl e_X rfl zX11 3 (by decide) q_435 rfl rfl ?_
      refine y_callV_v (As := []) (rest := []) (W := fun u_7 => wX g X N T Rd Fr u_7 u_3 PS Ly Pa OT Ea Ga Im0 Im1 La) (rm := zrAc_before) cx (fun _ hq => tAc_before hq) d_X11_place_34 37 rfl kk_X0_before q_507 q_508 q_509 rfl e_Ac rfl ⟨rfl, rfl⟩ ⟨Nat.le_of_ble_eq_true rfl, Nat.le_of_ble_eq_true rfl⟩ rfl rfl (Nat.le_of_ble_eq_true rfl) ⟨Nat.zero_le _, Nat.zero_le _⟩ h (fun u_7 h => ?_)
      refine z_aload_n cx d_X11_place_37 38 rfl rfl 1 rfl ?_
      refine z_get cx d_X11_place_38 41 rfl e_X rfl zX11 4 (by decide) q_436 rfl rfl ?_
      refine y_callV_v (As := []) (rest := []) (W := fun u_8 => wX g X u_8 T Rd Fr u_7 u_3 PS Ly Pa OT Ea Ga Im0 Im1 La) (rm := zr0) cx (fun _ hq => tCh_carryOut hq) d_X11_place_41 44 rfl kk_X1_carryOut q_551 q_552 q_553 rfl e_Ch rfl ⟨rfl, rfl⟩ ⟨Nat.le_of_ble_eq_true rfl, Nat.le_of_ble_eq_true rfl⟩ rfl rfl (Nat.le_of_ble_eq_true rfl) ⟨Nat.zero_le _, Nat.zero_le _⟩ h (fun u_8 h => ?_)
      refine z_aload_n cx d_X11_place_44 45 rfl rfl 1 rfl ?_
      refine z_get cx d_X11_place_45 48 rfl e_X rfl zX11 3 (by decide) q_435 rfl rfl ?_
      refine y_callV_v (As := []) (rest := []) (W := fun u_9 => wX g X u_8 T Rd Fr u_9 u_3 PS Ly Pa OT Ea Ga Im0 Im1 La) (rm := zr0) cx (fun _ hq => tAc_done hq) d_X11_place_48 51 rfl kk_X0_done q_518 q_519 q_520 rfl e_Ac rfl ⟨rfl, rfl⟩ ⟨Nat.le_of_ble_eq_true rfl, Nat.le_of_ble_eq_true rfl⟩ rfl rfl (Nat.le_of_ble_eq_true rfl) ⟨Nat.zero_le _, Nat.zero_le _⟩ h (fun u_9 h => ?_)
      refine z_sub [0] rfl ?_
      exact hk_6 _ _ h
  · refine y_iconst cx d_X11_place_8 9 rfl ?_
    subst hQ
    obtain rfl := Option.some.inj h
    exact z_iret cx d_X11_place_9 rfl rfl
def zrX_chain : Room := { frames := 4, cells := 0, slots := 0, locals := 104 }
set_option maxHeartbeats 4000000 in
theorem tX_chain {l : Launch} {g : ZG} {X : ZB} {N : ZB} {T : ZB} {Rd : ZB} {Fr : ZB} {Ac : ZA} {Ch : ZB} {PS : ZB} {Ly : ZB} {Pa : ZQ} {OT : ZB} {Ea : ZB} {Ga : ZB} {Im0 : ZO} {Im1 : ZO} {La : ZB} {a1 : Int} {r : Int × ZB} (h : fX_chain N Ch a1 = some r) : zMi l yX11_chain cX11_chain 3 (some .int) zrX_chain g [.ref (g.2.2 0), .int (zI a1)] (wX g X N T Rd Fr Ac Ch PS Ly Pa OT Ea Ga Im0 Im1 La) (wX g X N T Rd Fr Ac r.2 PS Ly Pa OT Ea Ga Im0 Im1 La) (zI r.1) := by
  unfold fX_chain at h
  refine zMi_q (own := RX11) rfl (by decide +kernel) (Nat.le_of_ble_eq_true rfl) (lv := [(0, .ref (g.2.2 0)), (1, .int (zI a1))]) rfl ⟨rfl, rfl⟩ ?_
  intro p e s m args below meth c A Q hQ cx
  refine z_aload_n cx d_X11_chain_0 1 rfl rfl 0 rfl ?_
  refine z_iload_n cx d_X11_chain_1 2 rfl rfl 1 rfl ?_
  refine y_callV_i (As := [.int (zI a1)]) (rest := []) (W := fun u_1 => wX g X N T Rd Fr Ac Ch PS Ly Pa OT Ea Ga Im0 Im1 La) (rf := fun u_1 => zI u_1) (rm := zrX_canBePlaced) cx (fun _ hq => tX_canBePlaced hq) d_X11_chain_2 5 rfl kk_X11_canBePlaced q_530 q_532 q_2 rfl e_X rfl ⟨rfl, rfl⟩ ⟨Nat.le_of_ble_eq_true rfl, Nat.le_of_ble_eq_true rfl⟩ rfl rfl (Nat.le_of_ble_eq_true rfl) ⟨Nat.zero_le _, Nat.zero_le _⟩ h (fun u_1 h => ?_)
  refine y_if_ne cx d_X11_chain_5 8 rfl 10 (by decide) rfl h (fun h => ?_) (fun h => ?_)
  · refine z_aload_n cx d_X11_chain_10 11 rfl rfl 0 rfl ?_
    refine z_get cx d_X11_chain_11 14 rfl e_X rfl zX11 4 (by decide) q_436 rfl rfl ?_
    refine z_iload_n cx d_X11_chain_14 15 rfl rfl 1 rfl ?_
    refine y_callV_i (As := [.int (zI a1)]) (rest := []) (W := fun u_2 => wX g X N T Rd Fr Ac u_2.2 PS Ly Pa OT Ea Ga Im0 Im1 La) (rf := fun u_2 => zI u_2.1) (rm := zrCh_find) cx (fun _ hq => tCh_find hq) d_X11_chain_15 18 rfl kk_X1_find q_534 q_535 q_536 rfl e_Ch rfl ⟨rfl, rfl⟩ ⟨Nat.le_of_ble_eq_true rfl, Nat.le_of_ble_eq_true rfl⟩ rfl rfl (Nat.le_of_ble_eq_true rfl) ⟨Nat.zero_le _, Nat.zero_le _⟩ h (fun u_2 h => ?_)
    refine y_istore_n cx d_X11_chain_18 19 rfl rfl (by decide) (lv' := [(2, .int (zI u_2.1)), (0, .ref (g.2.2 0)), (1, .int (zI a1))]) rfl ?_
    refine z_aload_n cx d_X11_chain_19 20 rfl rfl 1 rfl ?_
    refine z_get cx d_X11_chain_20 23 rfl e_X rfl zX11 4 (by decide) q_436 rfl rfl ?_
    refine y_callV_v (As := []) (rest := []) (W := fun u_3 => wX g X N T Rd Fr Ac u_3 PS Ly Pa OT Ea Ga Im0 Im1 La) (rm := zrCh_remember) cx (fun _ hq => tCh_remember hq) d_X11_chain_23 26 rfl kk_X1_remember q_892 q_893 q_894 rfl e_Ch rfl ⟨rfl, rfl⟩ ⟨Nat.le_of_ble_eq_true rfl, Nat.le_of_ble_eq_true rfl⟩ rfl rfl (Nat.le_of_ble_eq_true rfl) ⟨Nat.zero_le _, Nat.zero_le _⟩ h (fun u_3 h => ?_)
    refine z_iload_n cx d_X11_chain_26 27 rfl rfl 0 rfl ?_
    subst hQ
    obtain rfl := Option.some.inj h
    exact z_iret cx d_X11_chain_27 rfl rfl
  · refine y_iconst cx d_X11_chain_8 9 rfl ?_
    subst hQ
    obtain rfl := Option.some.inj h
    exact z_iret cx d_X11_chain_9 rfl rfl
