-- needs: 06.world 07.fun 08.links5 09.dec1 09.dec2 09.dec3 09.dec4 10.vsmall 11.vsets 12.vways 13.vread
def zrX_feed : Room := { frames := 1, cells := 0, slots := 0, locals := 22 }
set_option maxHeartbeats 4000000 in
theorem tX_feed {l : Launch} {g : ZG} {X : ZB} {N : ZB} {T : ZB} {Rd : ZB} {Fr : ZB} {Ac : ZA} {Ch : ZB} {PS : ZB} {Ly : ZB} {Pa : ZQ} {OT : ZB} {Ea : ZB} {Ga : ZB} {Im0 : ZO} {Im1 : ZO} {a1 : Int} {a2 : Int} {a3 : Int} {a4 : Int} {a5 : Int} {r : Int × ZB} (h : fX_feed T a1 a2 a3 a4 a5 = some r) : zMi l yX11_feed cX11_feed 6 (some .int) zrX_feed g [.ref (g.2.2 0), .int (zI a1), .int (zI a2), .int (zI a3), .int (zI a4), .int (zI a5)] (wX g X N T Rd Fr Ac Ch PS Ly Pa OT Ea Ga Im0 Im1) (wX g X N r.2 Rd Fr Ac Ch PS Ly Pa OT Ea Ga Im0 Im1) (zI r.1) := by
  unfold fX_feed at h
  refine zMi_q (own := RX11) rfl (by decide +kernel) (Nat.le_of_ble_eq_true rfl) (lv := [(0, .ref (g.2.2 0)), (1, .int (zI a1)), (2, .int (zI a2)), (3, .int (zI a3)), (4, .int (zI a4)), (5, .int (zI a5))]) rfl ⟨rfl, rfl⟩ ?_
  intro p e s m args below meth c A Q hQ cx
  refine z_aload_n cx d_X11_feed_0 1 rfl rfl 0 rfl ?_
  refine z_get cx d_X11_feed_1 4 rfl e_X rfl zX11 1 (by decide) q_538 rfl rfl ?_
  refine y_callV_i (As := []) (rest := []) (W := fun u_1 => wX g X N T Rd Fr Ac Ch PS Ly Pa OT Ea Ga Im0 Im1) (rf := fun u_1 => zI u_1) (rm := zr0) cx (fun _ hq => tT_hasRoom hq) d_X11_feed_4 7 rfl kk_X10_hasRoom q_581 q_582 q_583 rfl e_T rfl ⟨rfl, rfl⟩ ⟨Nat.le_of_ble_eq_true rfl, Nat.le_of_ble_eq_true rfl⟩ rfl rfl (Nat.le_of_ble_eq_true rfl) ⟨Nat.zero_le _, Nat.zero_le _⟩ h (fun u_1 h => ?_)
  refine y_if_ne cx d_X11_feed_7 10 rfl 12 (by decide) rfl h (fun h => ?_) (fun h => ?_)
  · refine z_aload_n cx d_X11_feed_12 13 rfl rfl 0 rfl ?_
    refine z_get cx d_X11_feed_13 16 rfl e_X rfl zX11 1 (by decide) q_538 rfl rfl ?_
    refine z_iload_n cx d_X11_feed_16 17 rfl rfl 1 rfl ?_
    refine y_callV_v (As := [.int (zI a1)]) (rest := []) (W := fun u_2 => wX g X N u_2 Rd Fr Ac Ch PS Ly Pa OT Ea Ga Im0 Im1) (rm := zr0) cx (fun _ hq => tT_add hq) d_X11_feed_17 20 rfl kk_X10_add q_585 q_586 q_587 rfl e_T rfl ⟨rfl, rfl⟩ ⟨Nat.le_of_ble_eq_true rfl, Nat.le_of_ble_eq_true rfl⟩ rfl rfl (Nat.le_of_ble_eq_true rfl) ⟨Nat.zero_le _, Nat.zero_le _⟩ h (fun u_2 h => ?_)
    refine z_aload_n cx d_X11_feed_20 21 rfl rfl 0 rfl ?_
    refine z_get cx d_X11_feed_21 24 rfl e_X rfl zX11 1 (by decide) q_538 rfl rfl ?_
    refine z_iload_n cx d_X11_feed_24 25 rfl rfl 2 rfl ?_
    refine y_callV_v (As := [.int (zI a2)]) (rest := []) (W := fun u_3 => wX g X N u_3 Rd Fr Ac Ch PS Ly Pa OT Ea Ga Im0 Im1) (rm := zr0) cx (fun _ hq => tT_add hq) d_X11_feed_25 28 rfl kk_X10_add q_585 q_586 q_587 rfl e_T rfl ⟨rfl, rfl⟩ ⟨Nat.le_of_ble_eq_true rfl, Nat.le_of_ble_eq_true rfl⟩ rfl rfl (Nat.le_of_ble_eq_true rfl) ⟨Nat.zero_le _, Nat.zero_le _⟩ h (fun u_3 h => ?_)
    refine z_aload_n cx d_X11_feed_28 29 rfl rfl 0 rfl ?_
    refine z_get cx d_X11_feed_29 32 rfl e_X rfl zX11 1 (by decide) q_538 rfl rfl ?_
    refine z_iload_n cx d_X11_feed_32 33 rfl rfl 3 rfl ?_
    refine y_callV_v (As := [.int (zI a3)]) (rest := []) (W := fun u_4 => wX g X N u_4 Rd Fr Ac Ch PS Ly Pa OT Ea Ga Im0 Im1) (rm := zr0) cx (fun _ hq => tT_add hq) d_X11_feed_33 36 rfl kk_X10_add q_585 q_586 q_587 rfl e_T rfl ⟨rfl, rfl⟩ ⟨Nat.le_of_ble_eq_true rfl, Nat.le_of_ble_eq_true rfl⟩ rfl rfl (Nat.le_of_ble_eq_true rfl) ⟨Nat.zero_le _, Nat.zero_le _⟩ h (fun u_4 h => ?_)
    refine z_aload_n cx d_X11_feed_36 37 rfl rfl 0 rfl ?_
    refine z_get cx d_X11_feed_37 40 rfl e_X rfl zX11 1 (by decide) q_538 rfl rfl ?_
    refine z_iload cx d_X11_feed_40 42 rfl 4 rfl ?_
    refine y_callV_v (As := [.int (zI a4)]) (rest := []) (W := fun u_5 => wX g X N u_5 Rd Fr Ac Ch PS Ly Pa OT Ea Ga Im0 Im1) (rm := zr0) cx (fun _ hq => tT_add hq) d_X11_feed_42 45 rfl kk_X10_add q_585 q_586 q_587 rfl e_T rfl ⟨rfl, rfl⟩ ⟨Nat.le_of_ble_eq_true rfl, Nat.le_of_ble_eq_true rfl⟩ rfl rfl (Nat.le_of_ble_eq_true rfl) ⟨Nat.zero_le _, Nat.zero_le _⟩ h (fun u_5 h => ?_)
    refine z_aload_n cx d_X11_feed_45 46 rfl rfl 0 rfl ?_
    refine z_get cx d_X11_feed_46 49 rfl e_X rfl zX11 1 (by decide) q_538 rfl rfl ?_
    refine z_iload cx d_X11_feed_49 51 rfl 5 rfl ?_
    refine y_callV_v (As := [.int (zI a5)]) (rest := []) (W := fun u_6 => wX g X N u_6 Rd Fr Ac Ch PS Ly Pa OT Ea Ga Im0 Im1) (rm := zr0) cx (fun _ hq => tT_add hq) d_X11_feed_51 54 rfl kk_X10_add q_585 q_586 q_587 rfl e_T rfl ⟨rfl, rfl⟩ ⟨Nat.le_of_ble_eq_true rfl, Nat.le_of_ble_eq_true rfl⟩ rfl rfl (Nat.le_of_ble_eq_true rfl) ⟨Nat.zero_le _, Nat.zero_le _⟩ h (fun u_6 h => ?_)
    refine z_aload_n cx d_X11_feed_54 55 rfl rfl 0 rfl ?_
    refine z_get cx d_X11_feed_55 58 rfl e_X rfl zX11 1 (by decide) q_538 rfl rfl ?_
    refine y_callV_i (As := []) (rest := []) (W := fun u_7 => wX g X N u_6 Rd Fr Ac Ch PS Ly Pa OT Ea Ga Im0 Im1) (rf := fun u_7 => zI u_7) (rm := zr0) cx (fun _ hq => tT_size hq) d_X11_feed_58 61 rfl kk_X10_size q_589 q_590 q_591 rfl e_T rfl ⟨rfl, rfl⟩ ⟨Nat.le_of_ble_eq_true rfl, Nat.le_of_ble_eq_true rfl⟩ rfl rfl (Nat.le_of_ble_eq_true rfl) ⟨Nat.zero_le _, Nat.zero_le _⟩ h (fun u_7 h => ?_)
    subst hQ
    obtain rfl := Option.some.inj h
    exact z_iret cx d_X11_feed_61 rfl rfl
  · refine y_iconst cx d_X11_feed_10 11 rfl ?_
    subst hQ
    obtain rfl := Option.some.inj h
    exact z_iret cx d_X11_feed_11 rfl rfl
def zrX_end : Room := { frames := 1, cells := 0, slots := 0, locals := 21 }
set_option maxHeartbeats 4000000 in
theorem tX_end {l : Launch} {g : ZG} {X : ZB} {N : ZB} {T : ZB} {Rd : ZB} {Fr : ZB} {Ac : ZA} {Ch : ZB} {PS : ZB} {Ly : ZB} {Pa : ZQ} {OT : ZB} {Ea : ZB} {Ga : ZB} {Im0 : ZO} {Im1 : ZO} {a1 : Int} {r : Int × ZB} (h : fX_end T a1 = some r) : zMi l yX11_end cX11_end 2 (some .boolean) zrX_end g [.ref (g.2.2 0), .int (zI a1)] (wX g X N T Rd Fr Ac Ch PS Ly Pa OT Ea Ga Im0 Im1) (wX g X N r.2 Rd Fr Ac Ch PS Ly Pa OT Ea Ga Im0 Im1) (zI r.1) := by
  unfold fX_end at h
  refine zMi_q (own := RX11) rfl (by decide +kernel) (Nat.le_of_ble_eq_true rfl) (lv := [(0, .ref (g.2.2 0)), (1, .int (zI a1))]) rfl ⟨rfl, rfl⟩ ?_
  intro p e s m args below meth c A Q hQ cx
  refine z_iload_n cx d_X11_end_0 1 rfl rfl 1 rfl ?_
  refine kf0_f (P := V p l e zrX_end s m args below meth c A s.heap g 2 Q (wX g X N T Rd Fr Ac Ch PS Ly Pa OT Ea Ga Im0 Im1) 0 0 [] 15 []) h (fun h => ?_) (fun k_1 hk_1 h => ?_)
  · refine y_iconst cx d_X11_end_15 16 rfl ?_
    subst hQ
    obtain rfl := Option.some.inj h
    exact z_zret cx d_X11_end_16 (zb01 (by decide)) rfl rfl
  refine y_if_lt cx d_X11_end_1 4 rfl 15 (by decide) rfl h (fun h => ?_) (fun h => ?_)
  · refine z_sub [] rfl ?_
    exact hk_1  h
  · refine z_iload_n cx d_X11_end_4 5 rfl rfl 1 rfl ?_
    refine z_aload_n cx d_X11_end_5 6 rfl rfl 0 rfl ?_
    refine z_get cx d_X11_end_6 9 rfl e_X rfl zX11 1 (by decide) q_538 rfl rfl ?_
    refine y_callV_i (As := []) (rest := [.int (zI a1)]) (W := fun u_2 => wX g X N T Rd Fr Ac Ch PS Ly Pa OT Ea Ga Im0 Im1) (rf := fun u_2 => zI u_2) (rm := zr0) cx (fun _ hq => tT_size hq) d_X11_end_9 12 rfl kk_X10_size q_589 q_590 q_591 rfl e_T rfl ⟨rfl, rfl⟩ ⟨Nat.le_of_ble_eq_true rfl, Nat.le_of_ble_eq_true rfl⟩ rfl rfl (Nat.le_of_ble_eq_true rfl) ⟨Nat.zero_le _, Nat.zero_le _⟩ h (fun u_2 h => ?_)
    refine y_icmp_le cx d_X11_end_12 15 rfl 17 (by decide) rfl rfl h (fun h => ?_) (fun h => ?_)
    · refine z_aload_n cx d_X11_end_17 18 rfl rfl 0 rfl ?_
      refine z_get cx d_X11_end_18 21 rfl e_X rfl zX11 1 (by decide) q_538 rfl rfl ?_
      refine z_iload_n cx d_X11_end_21 22 rfl rfl 1 rfl ?_
      refine y_callV_v (As := [.int (zI a1)]) (rest := []) (W := fun u_3 => wX g X N u_3 Rd Fr Ac Ch PS Ly Pa OT Ea Ga Im0 Im1) (rm := zr0) cx (fun _ hq => tT_cut hq) d_X11_end_22 25 rfl kk_X10_cut q_597 q_598 q_599 rfl e_T rfl ⟨rfl, rfl⟩ ⟨Nat.le_of_ble_eq_true rfl, Nat.le_of_ble_eq_true rfl⟩ rfl rfl (Nat.le_of_ble_eq_true rfl) ⟨Nat.zero_le _, Nat.zero_le _⟩ h (fun u_3 h => ?_)
      refine y_iconst cx d_X11_end_25 26 rfl ?_
      subst hQ
      obtain rfl := Option.some.inj h
      exact z_zret cx d_X11_end_26 (zb01 (by decide)) rfl rfl
    · refine z_sub [] rfl ?_
      exact hk_1  h
def zrX_net : Room := { frames := 8, cells := 0, slots := 0, locals := 171 }
set_option maxHeartbeats 4000000 in
theorem tX_net {l : Launch} {g : ZG} {X : ZB} {N : ZB} {T : ZB} {Rd : ZB} {Fr : ZB} {Ac : ZA} {Ch : ZB} {PS : ZB} {Ly : ZB} {Pa : ZQ} {OT : ZB} {Ea : ZB} {Ga : ZB} {Im0 : ZO} {Im1 : ZO}  {r : Int × ZB × ZB × ZB × ZB × ZA} (h : fX_net N T Rd Fr Ac = some r) : zMi l yX11_net cX11_net 2 (some .int) zrX_net g [.ref (g.2.2 0)] (wX g X N T Rd Fr Ac Ch PS Ly Pa OT Ea Ga Im0 Im1) (wX g X r.2.1 r.2.2.1 r.2.2.2.1 r.2.2.2.2.1 r.2.2.2.2.2 Ch PS Ly Pa OT Ea Ga Im0 Im1) (zI r.1) := by
  unfold fX_net at h
  refine zMi_q (own := RX11) rfl (by decide +kernel) (Nat.le_of_ble_eq_true rfl) (lv := [(0, .ref (g.2.2 0))]) rfl ⟨rfl, rfl⟩ ?_
  intro p e s m args below meth c A Q hQ cx
  refine z_aload_n cx d_X11_net_0 1 rfl rfl 0 rfl ?_
  refine z_get cx d_X11_net_1 4 rfl e_X rfl zX11 2 (by decide) q_539 rfl rfl ?_
  refine y_callV_i (As := []) (rest := []) (W := fun u_1 => wX g X N T u_1.2.1 u_1.2.2 Ac Ch PS Ly Pa OT Ea Ga Im0 Im1) (rf := fun u_1 => zI u_1.1) (rm := zrRd_read) cx (fun _ hq => tRd_read hq) d_X11_net_4 7 rfl kk_X9_read q_605 q_606 q_607 rfl e_Rd rfl ⟨rfl, rfl⟩ ⟨Nat.le_of_ble_eq_true rfl, Nat.le_of_ble_eq_true rfl⟩ rfl rfl (Nat.le_of_ble_eq_true rfl) ⟨Nat.zero_le _, Nat.zero_le _⟩ h (fun u_1 h => ?_)
  refine y_istore_n cx d_X11_net_7 8 rfl rfl (by decide) (lv' := [(1, .int (zI u_1.1)), (0, .ref (g.2.2 0))]) rfl ?_
  refine z_aload_n cx d_X11_net_8 9 rfl rfl 1 rfl ?_
  refine z_get cx d_X11_net_9 12 rfl e_X rfl zX11 1 (by decide) q_538 rfl rfl ?_
  refine y_iconst cx d_X11_net_12 13 rfl ?_
  refine y_callV_v (As := [.int (zI 0)]) (rest := []) (W := fun u_2 => wX g X N u_2 u_1.2.1 u_1.2.2 Ac Ch PS Ly Pa OT Ea Ga Im0 Im1) (rm := zr0) cx (fun _ hq => tT_cut hq) d_X11_net_13 16 rfl kk_X10_cut q_597 q_598 q_599 rfl e_T rfl ⟨rfl, rfl⟩ ⟨Nat.le_of_ble_eq_true rfl, Nat.le_of_ble_eq_true rfl⟩ rfl rfl (Nat.le_of_ble_eq_true rfl) ⟨Nat.zero_le _, Nat.zero_le _⟩ h (fun u_2 h => ?_)
  refine z_iload_n cx d_X11_net_16 17 rfl rfl 0 rfl ?_
  refine kf2_f (P := fun (N_3 : ZB) (Ac_4 : ZA) => V p l e zrX_net s m args below meth c A s.heap g 2 Q (wX g X N_3 u_2 u_1.2.1 u_1.2.2 Ac_4 Ch PS Ly Pa OT Ea Ga Im0 Im1) 0 0 [(1, .int (zI u_1.1))] 41 []) h (fun N_3 Ac_4 h => ?_) (fun k_5 hk_5 h => ?_)
  · refine z_iload_n cx d_X11_net_41 42 rfl rfl 0 rfl ?_
    subst hQ
    obtain rfl := Option.some.inj h
    exact z_iret cx d_X11_net_42 rfl rfl
  refine y_if_lt cx d_X11_net_17 20 rfl 41 (by decide) rfl h (fun h => ?_) (fun h => ?_)
  · refine z_sub [0] rfl ?_
    exact hk_5 _ _ h
  · refine z_aload_n cx d_X11_net_20 21 rfl rfl 1 rfl ?_
    refine z_get cx d_X11_net_21 24 rfl e_X rfl zX11 0 (by decide) q_537 rfl rfl ?_
    refine z_aload_n cx d_X11_net_24 25 rfl rfl 1 rfl ?_
    refine z_get cx d_X11_net_25 28 rfl e_X rfl zX11 2 (by decide) q_539 rfl rfl ?_
    refine z_callV_r (As := []) (rest := [.ref (g.2.2 1)]) (rm := zr0) cx tRd_told d_X11_net_28 31 rfl kk_X9_told q_684 q_685 q_686 rfl e_Rd rfl ⟨rfl, rfl⟩ ⟨Nat.le_of_ble_eq_true rfl, Nat.le_of_ble_eq_true rfl⟩ rfl rfl (Nat.le_of_ble_eq_true rfl) ⟨Nat.zero_le _, Nat.zero_le _⟩ ?_
    refine y_callV_v (As := [.ref (g.2.2 10)]) (rest := []) (W := fun u_6 => wX g X u_6 u_2 u_1.2.1 u_1.2.2 Ac Ch PS Ly Pa OT Ea Ga Im0 Im1) (rm := zrN_become) cx (fun _ hq => tN_become_N_Fr hq) d_X11_net_31 34 rfl kk_X5_become q_688 q_689 q_690 rfl e_N rfl ⟨rfl, rfl⟩ ⟨Nat.le_of_ble_eq_true rfl, Nat.le_of_ble_eq_true rfl⟩ rfl rfl (Nat.le_of_ble_eq_true rfl) ⟨Nat.zero_le _, Nat.zero_le _⟩ h (fun u_6 h => ?_)
    refine z_aload_n cx d_X11_net_34 35 rfl rfl 1 rfl ?_
    refine z_get cx d_X11_net_35 38 rfl e_X rfl zX11 3 (by decide) q_540 rfl rfl ?_
    refine y_callV_v (As := []) (rest := []) (W := fun u_7 => wX g X u_6 u_2 u_1.2.1 u_1.2.2 u_7 Ch PS Ly Pa OT Ea Ga Im0 Im1) (rm := zr0) cx (fun _ hq => tAc_forget hq) d_X11_net_38 41 rfl kk_X0_forget q_695 q_696 q_697 rfl e_Ac rfl ⟨rfl, rfl⟩ ⟨Nat.le_of_ble_eq_true rfl, Nat.le_of_ble_eq_true rfl⟩ rfl rfl (Nat.le_of_ble_eq_true rfl) ⟨Nat.zero_le _, Nat.zero_le _⟩ h (fun u_7 h => ?_)
    refine z_sub [0] rfl ?_
    exact hk_5 _ _ h
def zrX_fault : Room := { frames := 1, cells := 0, slots := 0, locals := 20 }
set_option maxHeartbeats 4000000 in
theorem tX_fault {l : Launch} {g : ZG} {X : ZB} {N : ZB} {T : ZB} {Rd : ZB} {Fr : ZB} {Ac : ZA} {Ch : ZB} {PS : ZB} {Ly : ZB} {Pa : ZQ} {OT : ZB} {Ea : ZB} {Ga : ZB} {Im0 : ZO} {Im1 : ZO}  {r : Int} (h : fX_fault Rd = some r) : zMi l yX11_fault cX11_fault 1 (some .int) zrX_fault g [.ref (g.2.2 0)] (wX g X N T Rd Fr Ac Ch PS Ly Pa OT Ea Ga Im0 Im1) (wX g X N T Rd Fr Ac Ch PS Ly Pa OT Ea Ga Im0 Im1) (zI r) := by
  unfold fX_fault at h
  refine zMi_q (own := RX11) rfl (by decide +kernel) (Nat.le_of_ble_eq_true rfl) (lv := [(0, .ref (g.2.2 0))]) rfl ⟨rfl, rfl⟩ ?_
  intro p e s m args below meth c A Q hQ cx
  refine z_aload_n cx d_X11_fault_0 1 rfl rfl 0 rfl ?_
  refine z_get cx d_X11_fault_1 4 rfl e_X rfl zX11 2 (by decide) q_539 rfl rfl ?_
  refine y_callV_i (As := []) (rest := []) (W := fun u_1 => wX g X N T Rd Fr Ac Ch PS Ly Pa OT Ea Ga Im0 Im1) (rf := fun u_1 => zI u_1) (rm := zr0) cx (fun _ hq => tRd_faultKind hq) d_X11_fault_4 7 rfl kk_X9_faultKind q_703 q_704 q_705 rfl e_Rd rfl ⟨rfl, rfl⟩ ⟨Nat.le_of_ble_eq_true rfl, Nat.le_of_ble_eq_true rfl⟩ rfl rfl (Nat.le_of_ble_eq_true rfl) ⟨Nat.zero_le _, Nat.zero_le _⟩ h (fun u_1 h => ?_)
  subst hQ
  obtain rfl := Option.some.inj h
  exact z_iret cx d_X11_fault_7 rfl rfl
def zrX_forests : Room := { frames := 4, cells := 0, slots := 0, locals := 140 }
set_option maxHeartbeats 4000000 in
theorem tX_forests {l : Launch} {g : ZG} {X : ZB} {N : ZB} {T : ZB} {Rd : ZB} {Fr : ZB} {Ac : ZA} {Ch : ZB} {PS : ZB} {Ly : ZB} {Pa : ZQ} {OT : ZB} {Ea : ZB} {Ga : ZB} {Im0 : ZO} {Im1 : ZO} {a1 : Int} {r : Int × ZB × ZA} (h : fX_forests N Ac a1 = some r) : zMi l yX11_forests cX11_forests 4 (some .int) zrX_forests g [.ref (g.2.2 0), .int (zI a1)] (wX g X N T Rd Fr Ac Ch PS Ly Pa OT Ea Ga Im0 Im1) (wX g X r.2.1 T Rd Fr r.2.2 Ch PS Ly Pa OT Ea Ga Im0 Im1) (zI r.1) := by
  unfold fX_forests at h
  refine zMi_q (own := RX11) rfl (by decide +kernel) (Nat.le_of_ble_eq_true rfl) (lv := [(0, .ref (g.2.2 0)), (1, .int (zI a1))]) rfl ⟨rfl, rfl⟩ ?_
  intro p e s m args below meth c A Q hQ cx
  refine z_iload_n cx d_X11_forests_0 1 rfl rfl 1 rfl ?_
  refine y_iconst cx d_X11_forests_1 2 rfl ?_
  refine kf0_f (P := V p l e zrX_forests s m args below meth c A s.heap g 4 Q (wX g X N T Rd Fr Ac Ch PS Ly Pa OT Ea Ga Im0 Im1) 0 0 [] 21 []) h (fun h => ?_) (fun k_1 hk_1 h => ?_)
  · refine y_iconst cx d_X11_forests_21 22 rfl ?_
    subst hQ
    obtain rfl := Option.some.inj h
    exact z_iret cx d_X11_forests_22 rfl rfl
  refine y_icmp_lt cx d_X11_forests_2 5 rfl 21 (by decide) rfl (nm_eq (x := 1) (by decide) (by decide)) h (fun h => ?_) (fun h => ?_)
  · refine z_sub [] rfl ?_
    exact hk_1  h
  · refine z_iload_n cx d_X11_forests_5 6 rfl rfl 1 rfl ?_
    refine y_iconst cx d_X11_forests_6 7 rfl ?_
    refine y_icmp_gt cx d_X11_forests_7 10 rfl 21 (by decide) rfl (nm_eq (x := 5) (by decide) (by decide)) h (fun h => ?_) (fun h => ?_)
    · refine z_sub [] rfl ?_
      exact hk_1  h
    · refine z_iload_n cx d_X11_forests_10 11 rfl rfl 1 rfl ?_
      refine z_aload_n cx d_X11_forests_11 12 rfl rfl 0 rfl ?_
      refine z_get cx d_X11_forests_12 15 rfl e_X rfl zX11 0 (by decide) q_537 rfl rfl ?_
      refine z_get cx d_X11_forests_15 18 rfl e_N rfl zX5 6 (by decide) q_191 rfl rfl ?_
      refine y_icmp_ne cx d_X11_forests_18 21 rfl 23 (by decide) rfl rfl h (fun h => ?_) (fun h => ?_)
      · refine z_aload_n cx d_X11_forests_23 24 rfl rfl 0 rfl ?_
        refine z_get cx d_X11_forests_24 27 rfl e_X rfl zX11 3 (by decide) q_540 rfl rfl ?_
        refine y_callV_v (As := []) (rest := []) (W := fun u_2 => wX g X N T Rd Fr u_2 Ch PS Ly Pa OT Ea Ga Im0 Im1) (rm := zrAc_before) cx (fun _ hq => tAc_before hq) d_X11_forests_27 30 rfl kk_X0_before q_711 q_712 q_713 rfl e_Ac rfl ⟨rfl, rfl⟩ ⟨Nat.le_of_ble_eq_true rfl, Nat.le_of_ble_eq_true rfl⟩ rfl rfl (Nat.le_of_ble_eq_true rfl) ⟨Nat.zero_le _, Nat.zero_le _⟩ h (fun u_2 h => ?_)
        refine y_iconst cx d_X11_forests_30 31 rfl ?_
        refine y_istore_n cx d_X11_forests_31 32 rfl rfl (by decide) (lv' := [(2, .int (zI 0)), (0, .ref (g.2.2 0)), (1, .int (zI a1))]) rfl ?_
        refine y_iconst cx d_X11_forests_32 33 rfl ?_
        refine y_istore_n cx d_X11_forests_33 34 rfl rfl (by decide) (lv' := [(3, .int (zI 0)), (2, .int (zI 0)), (0, .ref (g.2.2 0)), (1, .int (zI a1))]) rfl ?_
        refine z_sub [2, 3, 1, 0] rfl ?_
        refine lop3_f (P := fun (v2_3 : Int) (v3_4 : Int) (N_5 : ZB) => V p l e zrX_forests s m args below meth c A s.heap g 4 Q (wX g X N_5 T Rd Fr u_2 Ch PS Ly Pa OT Ea Ga Im0 Im1) 0 0 [(0, .ref (g.2.2 0)), (1, .int (zI a1)), (2, .int (zI v2_3)), (3, .int (zI v3_4))] 34 []) (fun rec_6 hrec_6 v2_3 v3_4 N_5 h => ?_) _ _ _ _ h
        refine z_iload_n cx d_X11_forests_34 35 rfl rfl 3 rfl ?_
        refine z_aload_n cx d_X11_forests_35 36 rfl rfl 0 rfl ?_
        refine z_get cx d_X11_forests_36 39 rfl e_X rfl zX11 0 (by decide) q_537 rfl rfl ?_
        refine z_get cx d_X11_forests_39 42 rfl e_N rfl zX5 5 (by decide) q_185 rfl rfl ?_
        refine y_icmp_ge cx d_X11_forests_42 45 rfl 77 (by decide) rfl rfl h (fun h => ?_) (fun h => ?_)
        · refine z_aload_n cx d_X11_forests_77 78 rfl rfl 0 rfl ?_
          refine z_get cx d_X11_forests_78 81 rfl e_X rfl zX11 0 (by decide) q_537 rfl rfl ?_
          refine z_iload_n cx d_X11_forests_81 82 rfl rfl 1 rfl ?_
          refine y_put cx d_X11_forests_82 85 rfl e_N rfl zX5 tyX5_ok nmX5 6 (by decide) q_191 rfl rfl rfl rfl (Nat.le_of_ble_eq_true rfl) h (fun _ h9 => s_N_6 h9) (fun N_7 h => ?_)
          refine z_aload_n cx d_X11_forests_85 86 rfl rfl 0 rfl ?_
          refine z_get cx d_X11_forests_86 89 rfl e_X rfl zX11 3 (by decide) q_540 rfl rfl ?_
          refine y_callV_v (As := []) (rest := []) (W := fun u_8 => wX g X N_7 T Rd Fr u_8 Ch PS Ly Pa OT Ea Ga Im0 Im1) (rm := zr0) cx (fun _ hq => tAc_done hq) d_X11_forests_89 92 rfl kk_X0_done q_716 q_717 q_718 rfl e_Ac rfl ⟨rfl, rfl⟩ ⟨Nat.le_of_ble_eq_true rfl, Nat.le_of_ble_eq_true rfl⟩ rfl rfl (Nat.le_of_ble_eq_true rfl) ⟨Nat.zero_le _, Nat.zero_le _⟩ h (fun u_8 h => ?_)
          refine z_iload_n cx d_X11_forests_92 93 rfl rfl 2 rfl ?_
          subst hQ
          obtain rfl := Option.some.inj h
          exact z_iret cx d_X11_forests_93 rfl rfl
        · refine z_aload_n cx d_X11_forests_45 46 rfl rfl 0 rfl ?_
          refine z_get cx d_X11_forests_46 49 rfl e_X rfl zX11 0 (by decide) q_537 rfl rfl ?_
          refine z_get cx d_X11_forests_49 52 rfl e_N rfl zX5 3 (by decide) q_168 rfl rfl ?_
          refine z_iload_n cx d_X11_forests_52 53 rfl rfl 3 rfl ?_
          refine y_ialdx cx d_X11_forests_53 54 rfl e_N_home (by decide) h (fun x_9 h => ?_)
          refine z_iload_n cx d_X11_forests_54 55 rfl rfl 1 rfl ?_
          refine kf2_f (P := fun (v2_10 : Int) (N_11 : ZB) => V p l e zrX_forests s m args below meth c A s.heap g 4 Q (wX g X N_11 T Rd Fr u_2 Ch PS Ly Pa OT Ea Ga Im0 Im1) 0 0 [(0, .ref (g.2.2 0)), (1, .int (zI a1)), (2, .int (zI v2_10)), (3, .int (zI v3_4))] 71 []) h (fun v2_10 N_11 h => ?_) (fun k_12 hk_12 h => ?_)
          · refine y_iinc cx 3 d_X11_forests_71 74 rfl rfl (by decide) (lv' := [(3, .int (zI (v3_4 + 1))), (0, .ref (g.2.2 0)), (1, .int (zI a1)), (2, .int (zI v2_10))]) rfl ?_
            refine z_goto cx d_X11_forests_74 34 (by decide) ?_
            refine z_sub [1, 2, 3, 0] rfl ?_
            exact hrec_6 _ _ _ h
          refine y_icmp_lt cx d_X11_forests_55 58 rfl 71 (by decide) rfl rfl h (fun h => ?_) (fun h => ?_)
          · exact hk_12 _ _ h
          · refine z_aload_n cx d_X11_forests_58 59 rfl rfl 0 rfl ?_
            refine z_get cx d_X11_forests_59 62 rfl e_X rfl zX11 0 (by decide) q_537 rfl rfl ?_
            refine z_get cx d_X11_forests_62 65 rfl e_N rfl zX5 3 (by decide) q_168 rfl rfl ?_
            refine z_iload_n cx d_X11_forests_65 66 rfl rfl 3 rfl ?_
            refine y_iconst cx d_X11_forests_66 67 rfl ?_
            refine y_iast cx d_X11_forests_67 68 rfl e_N_home (by decide) h (fun _ h9 => s_N_home h9) (fun N_13 h => ?_)
            refine y_iinc cx 2 d_X11_forests_68 71 rfl rfl (by decide) (lv' := [(2, .int (zI (v2_3 + 1))), (0, .ref (g.2.2 0)), (1, .int (zI a1)), (3, .int (zI v3_4))]) rfl ?_
            refine z_sub [1, 2, 0, 3] rfl ?_
            exact hk_12 _ _ h
      · refine z_sub [] rfl ?_
        exact hk_1  h
def zrX_forest : Room := { frames := 1, cells := 0, slots := 0, locals := 23 }
set_option maxHeartbeats 4000000 in
theorem tX_forest {l : Launch} {g : ZG} {X : ZB} {N : ZB} {T : ZB} {Rd : ZB} {Fr : ZB} {Ac : ZA} {Ch : ZB} {PS : ZB} {Ly : ZB} {Pa : ZQ} {OT : ZB} {Ea : ZB} {Ga : ZB} {Im0 : ZO} {Im1 : ZO} {a1 : Int} {r : Int} (h : fX_forest N a1 = some r) : zMi l yX11_forest cX11_forest 2 (some .int) zrX_forest g [.ref (g.2.2 0), .int (zI a1)] (wX g X N T Rd Fr Ac Ch PS Ly Pa OT Ea Ga Im0 Im1) (wX g X N T Rd Fr Ac Ch PS Ly Pa OT Ea Ga Im0 Im1) (zI r) := by
  unfold fX_forest at h
  refine zMi_q (own := RX11) rfl (by decide +kernel) (Nat.le_of_ble_eq_true rfl) (lv := [(0, .ref (g.2.2 0)), (1, .int (zI a1))]) rfl ⟨rfl, rfl⟩ ?_
  intro p e s m args below meth c A Q hQ cx
  refine z_aload_n cx d_X11_forest_0 1 rfl rfl 0 rfl ?_
  refine z_get cx d_X11_forest_1 4 rfl e_X rfl zX11 0 (by decide) q_537 rfl rfl ?_
  refine z_iload_n cx d_X11_forest_4 5 rfl rfl 1 rfl ?_
  refine y_callV_i (As := [.int (zI a1)]) (rest := []) (W := fun u_1 => wX g X N T Rd Fr Ac Ch PS Ly Pa OT Ea Ga Im0 Im1) (rf := fun u_1 => zI u_1) (rm := zr0) cx (fun _ hq => tN_hasForest hq) d_X11_forest_5 8 rfl kk_X5_hasForest q_724 q_725 q_726 rfl e_N rfl ⟨rfl, rfl⟩ ⟨Nat.le_of_ble_eq_true rfl, Nat.le_of_ble_eq_true rfl⟩ rfl rfl (Nat.le_of_ble_eq_true rfl) ⟨Nat.zero_le _, Nat.zero_le _⟩ h (fun u_1 h => ?_)
  refine kf1_f (P := fun (w0_2 : Int) => V p l e zrX_forest s m args below meth c A s.heap g 2 Q (wX g X N T Rd Fr Ac Ch PS Ly Pa OT Ea Ga Im0 Im1) 0 0 [] 23 [.int (zI w0_2)]) h (fun w0_2 h => ?_) (fun k_3 hk_3 h => ?_)
  · subst hQ
    obtain rfl := Option.some.inj h
    exact z_iret cx d_X11_forest_23 rfl rfl
  refine y_if_eq cx d_X11_forest_8 11 rfl 22 (by decide) rfl h (fun h => ?_) (fun h => ?_)
  · refine y_iconst cx d_X11_forest_22 23 rfl ?_
    refine z_sub [] rfl ?_
    exact hk_3 _ h
  · refine z_aload_n cx d_X11_forest_11 12 rfl rfl 0 rfl ?_
    refine z_get cx d_X11_forest_12 15 rfl e_X rfl zX11 0 (by decide) q_537 rfl rfl ?_
    refine z_iload_n cx d_X11_forest_15 16 rfl rfl 1 rfl ?_
    refine y_callV_i (As := [.int (zI a1)]) (rest := []) (W := fun u_4 => wX g X N T Rd Fr Ac Ch PS Ly Pa OT Ea Ga Im0 Im1) (rf := fun u_4 => zI u_4) (rm := zr0) cx (fun _ hq => tN_forestSet hq) d_X11_forest_16 19 rfl kk_X5_forestSet q_728 q_729 q_730 rfl e_N rfl ⟨rfl, rfl⟩ ⟨Nat.le_of_ble_eq_true rfl, Nat.le_of_ble_eq_true rfl⟩ rfl rfl (Nat.le_of_ble_eq_true rfl) ⟨Nat.zero_le _, Nat.zero_le _⟩ h (fun u_4 h => ?_)
    refine z_goto cx d_X11_forest_19 23 (by decide) ?_
    refine z_sub [] rfl ?_
    exact hk_3 _ h
def zrX_now : Room := { frames := 3, cells := 0, slots := 0, locals := 71 }
set_option maxHeartbeats 4000000 in
theorem tX_now {l : Launch} {g : ZG} {X : ZB} {N : ZB} {T : ZB} {Rd : ZB} {Fr : ZB} {Ac : ZA} {Ch : ZB} {PS : ZB} {Ly : ZB} {Pa : ZQ} {OT : ZB} {Ea : ZB} {Ga : ZB} {Im0 : ZO} {Im1 : ZO} {a1 : Int} {r : Int} (h : fX_now N T Ac a1 = some r) : zMi l yX11_now cX11_now 2 (some .int) zrX_now g [.ref (g.2.2 0), .int (zI a1)] (wX g X N T Rd Fr Ac Ch PS Ly Pa OT Ea Ga Im0 Im1) (wX g X N T Rd Fr Ac Ch PS Ly Pa OT Ea Ga Im0 Im1) (zI r) := by
  unfold fX_now at h
  refine zMi_q (own := RX11) rfl (by decide +kernel) (Nat.le_of_ble_eq_true rfl) (lv := [(0, .ref (g.2.2 0)), (1, .int (zI a1))]) rfl ⟨rfl, rfl⟩ ?_
  intro p e s m args below meth c A Q hQ cx
  refine z_iload_n cx d_X11_now_0 1 rfl rfl 1 rfl ?_
  refine ite_c h (fun c_1 h => ?_) (fun c_1 h => ?_)
  · refine y_swIn cx d_X11_now_1 0 (Eq.trans rfl c_1) 52 (by decide) (by decide) rfl (by decide) ?_
    refine z_aload_n cx d_X11_now_52 53 rfl rfl 0 rfl ?_
    refine z_get cx d_X11_now_53 56 rfl e_X rfl zX11 0 (by decide) q_537 rfl rfl ?_
    refine z_get cx d_X11_now_56 59 rfl e_N rfl zX5 4 (by decide) q_178 rfl rfl ?_
    subst hQ
    obtain rfl := Option.some.inj h
    exact z_iret cx d_X11_now_59 rfl rfl
  · refine ite_c h (fun c_2 h => ?_) (fun c_2 h => ?_)
    · refine y_swIn cx d_X11_now_1 1 (Eq.trans rfl c_2) 60 (by decide) (by decide) rfl (by decide) ?_
      refine z_aload_n cx d_X11_now_60 61 rfl rfl 0 rfl ?_
      refine z_get cx d_X11_now_61 64 rfl e_X rfl zX11 0 (by decide) q_537 rfl rfl ?_
      refine z_get cx d_X11_now_64 67 rfl e_N rfl zX5 5 (by decide) q_185 rfl rfl ?_
      subst hQ
      obtain rfl := Option.some.inj h
      exact z_iret cx d_X11_now_67 rfl rfl
    · refine ite_c h (fun c_3 h => ?_) (fun c_3 h => ?_)
      · refine y_swIn cx d_X11_now_1 2 (Eq.trans rfl c_3) 68 (by decide) (by decide) rfl (by decide) ?_
        refine z_aload_n cx d_X11_now_68 69 rfl rfl 0 rfl ?_
        refine z_get cx d_X11_now_69 72 rfl e_X rfl zX11 0 (by decide) q_537 rfl rfl ?_
        refine z_get cx d_X11_now_72 75 rfl e_N rfl zX5 6 (by decide) q_191 rfl rfl ?_
        subst hQ
        obtain rfl := Option.some.inj h
        exact z_iret cx d_X11_now_75 rfl rfl
      · refine ite_c h (fun c_4 h => ?_) (fun c_4 h => ?_)
        · refine y_swIn cx d_X11_now_1 3 (Eq.trans rfl c_4) 76 (by decide) (by decide) rfl (by decide) ?_
          refine z_aload_n cx d_X11_now_76 77 rfl rfl 0 rfl ?_
          refine z_get cx d_X11_now_77 80 rfl e_X rfl zX11 0 (by decide) q_537 rfl rfl ?_
          refine y_callV_i (As := []) (rest := []) (W := fun u_5 => wX g X N T Rd Fr Ac Ch PS Ly Pa OT Ea Ga Im0 Im1) (rf := fun u_5 => zI u_5) (rm := zr0) cx (fun _ hq => tN_soundSet hq) d_X11_now_80 83 rfl kk_X5_soundSet q_736 q_737 q_738 rfl e_N rfl ⟨rfl, rfl⟩ ⟨Nat.le_of_ble_eq_true rfl, Nat.le_of_ble_eq_true rfl⟩ rfl rfl (Nat.le_of_ble_eq_true rfl) ⟨Nat.zero_le _, Nat.zero_le _⟩ h (fun u_5 h => ?_)
          refine y_callS_i (As := [.int (zI u_5)]) (rest := []) (W := fun u_6 => wX g X N T Rd Fr Ac Ch PS Ly Pa OT Ea Ga Im0 Im1) (rf := fun u_6 => zI u_6) (rm := zr0) cx (fun _ hq => tJI_bitCount hq) d_X11_now_83 86 rfl kk_B_bitCount q_740 q_741 ⟨rfl, rfl⟩ ⟨Nat.le_of_ble_eq_true rfl, Nat.le_of_ble_eq_true rfl⟩ rfl rfl (Nat.le_of_ble_eq_true rfl) ⟨Nat.zero_le _, Nat.zero_le _⟩ h (fun u_6 h => ?_)
          subst hQ
          obtain rfl := Option.some.inj h
          exact z_iret cx d_X11_now_86 rfl rfl
        · refine ite_c h (fun c_7 h => ?_) (fun c_7 h => ?_)
          · refine y_swIn cx d_X11_now_1 4 (Eq.trans rfl c_7) 87 (by decide) (by decide) rfl (by decide) ?_
            refine z_aload_n cx d_X11_now_87 88 rfl rfl 0 rfl ?_
            refine z_get cx d_X11_now_88 91 rfl e_X rfl zX11 0 (by decide) q_537 rfl rfl ?_
            refine y_callV_i (As := []) (rest := []) (W := fun u_8 => wX g X N T Rd Fr Ac Ch PS Ly Pa OT Ea Ga Im0 Im1) (rf := fun u_8 => zI u_8) (rm := zrN_packed) cx (fun _ hq => tN_packed hq) d_X11_now_91 94 rfl kk_X5_packed q_746 q_747 q_748 rfl e_N rfl ⟨rfl, rfl⟩ ⟨Nat.le_of_ble_eq_true rfl, Nat.le_of_ble_eq_true rfl⟩ rfl rfl (Nat.le_of_ble_eq_true rfl) ⟨Nat.zero_le _, Nat.zero_le _⟩ h (fun u_8 h => ?_)
            subst hQ
            obtain rfl := Option.some.inj h
            exact z_iret cx d_X11_now_94 rfl rfl
          · refine ite_c h (fun c_9 h => ?_) (fun c_9 h => ?_)
            · refine y_swIn cx d_X11_now_1 5 (Eq.trans rfl c_9) 95 (by decide) (by decide) rfl (by decide) ?_
              refine z_aload_n cx d_X11_now_95 96 rfl rfl 0 rfl ?_
              refine z_get cx d_X11_now_96 99 rfl e_X rfl zX11 0 (by decide) q_537 rfl rfl ?_
              refine z_aload_n cx d_X11_now_99 100 rfl rfl 0 rfl ?_
              refine z_get cx d_X11_now_100 103 rfl e_X rfl zX11 0 (by decide) q_537 rfl rfl ?_
              refine y_callV_i (As := []) (rest := [.ref (g.2.2 1)]) (W := fun u_10 => wX g X N T Rd Fr Ac Ch PS Ly Pa OT Ea Ga Im0 Im1) (rf := fun u_10 => zI u_10) (rm := zr0) cx (fun _ hq => tN_soundSet hq) d_X11_now_103 106 rfl kk_X5_soundSet q_736 q_737 q_738 rfl e_N rfl ⟨rfl, rfl⟩ ⟨Nat.le_of_ble_eq_true rfl, Nat.le_of_ble_eq_true rfl⟩ rfl rfl (Nat.le_of_ble_eq_true rfl) ⟨Nat.zero_le _, Nat.zero_le _⟩ h (fun u_10 h => ?_)
              refine y_callV_i (As := [.int (zI u_10)]) (rest := []) (W := fun u_11 => wX g X N T Rd Fr Ac Ch PS Ly Pa OT Ea Ga Im0 Im1) (rf := fun u_11 => zI u_11) (rm := zrN_pieces) cx (fun _ hq => tN_pieces hq) d_X11_now_106 109 rfl kk_X5_pieces q_752 q_753 q_754 rfl e_N rfl ⟨rfl, rfl⟩ ⟨Nat.le_of_ble_eq_true rfl, Nat.le_of_ble_eq_true rfl⟩ rfl rfl (Nat.le_of_ble_eq_true rfl) ⟨Nat.zero_le _, Nat.zero_le _⟩ h (fun u_11 h => ?_)
              subst hQ
              obtain rfl := Option.some.inj h
              exact z_iret cx d_X11_now_109 rfl rfl
            · refine ite_c h (fun c_12 h => ?_) (fun c_12 h => ?_)
              · refine y_swIn cx d_X11_now_1 6 (Eq.trans rfl c_12) 110 (by decide) (by decide) rfl (by decide) ?_
                refine z_aload_n cx d_X11_now_110 111 rfl rfl 0 rfl ?_
                refine z_get cx d_X11_now_111 114 rfl e_X rfl zX11 0 (by decide) q_537 rfl rfl ?_
                refine z_aload_n cx d_X11_now_114 115 rfl rfl 0 rfl ?_
                refine z_get cx d_X11_now_115 118 rfl e_X rfl zX11 0 (by decide) q_537 rfl rfl ?_
                refine y_iconst cx d_X11_now_118 119 rfl ?_
                refine y_callV_i (As := [.int (zI 0)]) (rest := [.ref (g.2.2 1)]) (W := fun u_13 => wX g X N T Rd Fr Ac Ch PS Ly Pa OT Ea Ga Im0 Im1) (rf := fun u_13 => zI u_13) (rm := zr0) cx (fun _ hq => tN_forestSet hq) d_X11_now_119 122 rfl kk_X5_forestSet q_728 q_729 q_730 rfl e_N rfl ⟨rfl, rfl⟩ ⟨Nat.le_of_ble_eq_true rfl, Nat.le_of_ble_eq_true rfl⟩ rfl rfl (Nat.le_of_ble_eq_true rfl) ⟨Nat.zero_le _, Nat.zero_le _⟩ h (fun u_13 h => ?_)
                refine y_callV_i (As := [.int (zI u_13)]) (rest := []) (W := fun u_14 => wX g X N T Rd Fr Ac Ch PS Ly Pa OT Ea Ga Im0 Im1) (rf := fun u_14 => zI u_14) (rm := zrN_pieces) cx (fun _ hq => tN_pieces hq) d_X11_now_122 125 rfl kk_X5_pieces q_752 q_753 q_754 rfl e_N rfl ⟨rfl, rfl⟩ ⟨Nat.le_of_ble_eq_true rfl, Nat.le_of_ble_eq_true rfl⟩ rfl rfl (Nat.le_of_ble_eq_true rfl) ⟨Nat.zero_le _, Nat.zero_le _⟩ h (fun u_14 h => ?_)
                subst hQ
                obtain rfl := Option.some.inj h
                exact z_iret cx d_X11_now_125 rfl rfl
              · refine ite_c h (fun c_15 h => ?_) (fun c_15 h => ?_)
                · refine y_swIn cx d_X11_now_1 7 (Eq.trans rfl c_15) 126 (by decide) (by decide) rfl (by decide) ?_
                  refine z_aload_n cx d_X11_now_126 127 rfl rfl 0 rfl ?_
                  refine z_get cx d_X11_now_127 130 rfl e_X rfl zX11 3 (by decide) q_540 rfl rfl ?_
                  refine y_callV_i (As := []) (rest := []) (W := fun u_16 => wX g X N T Rd Fr Ac Ch PS Ly Pa OT Ea Ga Im0 Im1) (rf := fun u_16 => zI u_16) (rm := zr0) cx (fun _ hq => tAc_count hq) d_X11_now_130 133 rfl kk_X0_count q_764 q_765 q_766 rfl e_Ac rfl ⟨rfl, rfl⟩ ⟨Nat.le_of_ble_eq_true rfl, Nat.le_of_ble_eq_true rfl⟩ rfl rfl (Nat.le_of_ble_eq_true rfl) ⟨Nat.zero_le _, Nat.zero_le _⟩ h (fun u_16 h => ?_)
                  subst hQ
                  obtain rfl := Option.some.inj h
                  exact z_iret cx d_X11_now_133 rfl rfl
                · refine ite_c h (fun c_17 h => ?_) (fun c_17 h => ?_)
                  · refine y_swIn cx d_X11_now_1 8 (Eq.trans rfl c_17) 134 (by decide) (by decide) rfl (by decide) ?_
                    refine z_aload_n cx d_X11_now_134 135 rfl rfl 0 rfl ?_
                    refine z_get cx d_X11_now_135 138 rfl e_X rfl zX11 1 (by decide) q_538 rfl rfl ?_
                    refine y_callV_i (As := []) (rest := []) (W := fun u_18 => wX g X N T Rd Fr Ac Ch PS Ly Pa OT Ea Ga Im0 Im1) (rf := fun u_18 => zI u_18) (rm := zr0) cx (fun _ hq => tT_size hq) d_X11_now_138 141 rfl kk_X10_size q_589 q_590 q_591 rfl e_T rfl ⟨rfl, rfl⟩ ⟨Nat.le_of_ble_eq_true rfl, Nat.le_of_ble_eq_true rfl⟩ rfl rfl (Nat.le_of_ble_eq_true rfl) ⟨Nat.zero_le _, Nat.zero_le _⟩ h (fun u_18 h => ?_)
                    subst hQ
                    obtain rfl := Option.some.inj h
                    exact z_iret cx d_X11_now_141 rfl rfl
                  · refine y_swOut cx d_X11_now_1 (by omega) 142 (by decide) ?_
                    refine y_iconst cx d_X11_now_142 143 rfl ?_
                    subst hQ
                    obtain rfl := Option.some.inj h
                    exact z_iret cx d_X11_now_143 rfl rfl
def zrX_whyNotPut : Room := { frames := 2, cells := 0, slots := 0, locals := 54 }
set_option maxHeartbeats 4000000 in
theorem tX_whyNotPut {l : Launch} {g : ZG} {X : ZB} {N : ZB} {T : ZB} {Rd : ZB} {Fr : ZB} {Ac : ZA} {Ch : ZB} {PS : ZB} {Ly : ZB} {Pa : ZQ} {OT : ZB} {Ea : ZB} {Ga : ZB} {Im0 : ZO} {Im1 : ZO} {a1 : Int} {a2 : Int} {r : Int × ZB} (h : fX_whyNotPut N Ch a1 a2 = some r) : zMi l yX11_whyNotPut cX11_whyNotPut 3 (some .int) zrX_whyNotPut g [.ref (g.2.2 0), .int (zI a1), .int (zI a2)] (wX g X N T Rd Fr Ac Ch PS Ly Pa OT Ea Ga Im0 Im1) (wX g X N T Rd Fr Ac r.2 PS Ly Pa OT Ea Ga Im0 Im1) (zI r.1) := by
  unfold fX_whyNotPut at h
  refine zMi_q (own := RX11) rfl (by decide +kernel) (Nat.le_of_ble_eq_true rfl) (lv := [(0, .ref (g.2.2 0)), (1, .int (zI a1)), (2, .int (zI a2))]) rfl ⟨rfl, rfl⟩ ?_
  intro p e s m args below meth c A Q hQ cx
  refine z_aload_n cx d_X11_whyNotPut_0 1 rfl rfl 0 rfl ?_
  refine z_get cx d_X11_whyNotPut_1 4 rfl e_X rfl zX11 0 (by decide) q_537 rfl rfl ?_
  refine z_iload_n cx d_X11_whyNotPut_4 5 rfl rfl 1 rfl ?_
  refine y_callV_i (As := [.int (zI a1)]) (rest := []) (W := fun u_1 => wX g X N T Rd Fr Ac Ch PS Ly Pa OT Ea Ga Im0 Im1) (rf := fun u_1 => zI u_1) (rm := zr0) cx (fun _ hq => tN_isSound hq) d_X11_whyNotPut_5 8 rfl kk_X5_isSound q_780 q_781 q_782 rfl e_N rfl ⟨rfl, rfl⟩ ⟨Nat.le_of_ble_eq_true rfl, Nat.le_of_ble_eq_true rfl⟩ rfl rfl (Nat.le_of_ble_eq_true rfl) ⟨Nat.zero_le _, Nat.zero_le _⟩ h (fun u_1 h => ?_)
  refine y_if_ne cx d_X11_whyNotPut_8 11 rfl 13 (by decide) rfl h (fun h => ?_) (fun h => ?_)
  · refine z_aload_n cx d_X11_whyNotPut_13 14 rfl rfl 0 rfl ?_
    refine z_get cx d_X11_whyNotPut_14 17 rfl e_X rfl zX11 0 (by decide) q_537 rfl rfl ?_
    refine z_get cx d_X11_whyNotPut_17 20 rfl e_N rfl zX5 3 (by decide) q_168 rfl rfl ?_
    refine z_iload_n cx d_X11_whyNotPut_20 21 rfl rfl 1 rfl ?_
    refine y_ialdx cx d_X11_whyNotPut_21 22 rfl e_N_home (by decide) h (fun x_2 h => ?_)
    refine y_iconst cx d_X11_whyNotPut_22 23 rfl ?_
    refine y_icmp_eq cx d_X11_whyNotPut_23 26 rfl 28 (by decide) rfl (nm_eq (x := (-1)) (by decide) (by decide)) h (fun h => ?_) (fun h => ?_)
    · refine z_aload_n cx d_X11_whyNotPut_28 29 rfl rfl 0 rfl ?_
      refine z_get cx d_X11_whyNotPut_29 32 rfl e_X rfl zX11 4 (by decide) q_541 rfl rfl ?_
      refine z_iload_n cx d_X11_whyNotPut_32 33 rfl rfl 1 rfl ?_
      refine z_iload_n cx d_X11_whyNotPut_33 34 rfl rfl 2 rfl ?_
      refine y_callV_i (As := [.int (zI a1), .int (zI a2)]) (rest := []) (W := fun u_3 => wX g X N T Rd Fr Ac u_3.2 PS Ly Pa OT Ea Ga Im0 Im1) (rf := fun u_3 => zI u_3.1) (rm := zrCh_ringOf) cx (fun _ hq => tCh_ringOf hq) d_X11_whyNotPut_34 37 rfl kk_X1_ringOf q_784 q_785 q_786 rfl e_Ch rfl ⟨rfl, rfl⟩ ⟨Nat.le_of_ble_eq_true rfl, Nat.le_of_ble_eq_true rfl⟩ rfl rfl (Nat.le_of_ble_eq_true rfl) ⟨Nat.zero_le _, Nat.zero_le _⟩ h (fun u_3 h => ?_)
      refine kf1_f (P := fun (w0_4 : Int) => V p l e zrX_whyNotPut s m args below meth c A s.heap g 3 Q (wX g X N T Rd Fr Ac u_3.2 PS Ly Pa OT Ea Ga Im0 Im1) 0 0 [] 45 [.int (zI w0_4)]) h (fun w0_4 h => ?_) (fun k_5 hk_5 h => ?_)
      · subst hQ
        obtain rfl := Option.some.inj h
        exact z_iret cx d_X11_whyNotPut_45 rfl rfl
      refine y_if_eq cx d_X11_whyNotPut_37 40 rfl 44 (by decide) rfl h (fun h => ?_) (fun h => ?_)
      · refine y_iconst cx d_X11_whyNotPut_44 45 rfl ?_
        refine z_sub [] rfl ?_
        exact hk_5 _ h
      · refine y_iconst cx d_X11_whyNotPut_40 41 rfl ?_
        refine z_goto cx d_X11_whyNotPut_41 45 (by decide) ?_
        refine z_sub [] rfl ?_
        exact hk_5 _ h
    · refine y_iconst cx d_X11_whyNotPut_26 27 rfl ?_
      subst hQ
      obtain rfl := Option.some.inj h
      exact z_iret cx d_X11_whyNotPut_27 rfl rfl
  · refine y_iconst cx d_X11_whyNotPut_11 12 rfl ?_
    subst hQ
    obtain rfl := Option.some.inj h
    exact z_iret cx d_X11_whyNotPut_12 rfl rfl
def zrX_put : Room := { frames := 4, cells := 0, slots := 0, locals := 140 }
set_option maxHeartbeats 4000000 in
theorem tX_put {l : Launch} {g : ZG} {X : ZB} {N : ZB} {T : ZB} {Rd : ZB} {Fr : ZB} {Ac : ZA} {Ch : ZB} {PS : ZB} {Ly : ZB} {Pa : ZQ} {OT : ZB} {Ea : ZB} {Ga : ZB} {Im0 : ZO} {Im1 : ZO} {a1 : Int} {a2 : Int} {r : Int × ZB × ZA × ZB} (h : fX_put N Ac Ch a1 a2 = some r) : zMi l yX11_put cX11_put 4 (some .int) zrX_put g [.ref (g.2.2 0), .int (zI a1), .int (zI a2)] (wX g X N T Rd Fr Ac Ch PS Ly Pa OT Ea Ga Im0 Im1) (wX g X r.2.1 T Rd Fr r.2.2.1 r.2.2.2 PS Ly Pa OT Ea Ga Im0 Im1) (zI r.1) := by
  unfold fX_put at h
  refine zMi_q (own := RX11) rfl (by decide +kernel) (Nat.le_of_ble_eq_true rfl) (lv := [(0, .ref (g.2.2 0)), (1, .int (zI a1)), (2, .int (zI a2))]) rfl ⟨rfl, rfl⟩ ?_
  intro p e s m args below meth c A Q hQ cx
  refine z_aload_n cx d_X11_put_0 1 rfl rfl 0 rfl ?_
  refine z_get cx d_X11_put_1 4 rfl e_X rfl zX11 0 (by decide) q_537 rfl rfl ?_
  refine z_iload_n cx d_X11_put_4 5 rfl rfl 1 rfl ?_
  refine y_callV_i (As := [.int (zI a1)]) (rest := []) (W := fun u_1 => wX g X N T Rd Fr Ac Ch PS Ly Pa OT Ea Ga Im0 Im1) (rf := fun u_1 => zI u_1) (rm := zr0) cx (fun _ hq => tN_hasLine hq) d_X11_put_5 8 rfl kk_X5_hasLine q_772 q_773 q_774 rfl e_N rfl ⟨rfl, rfl⟩ ⟨Nat.le_of_ble_eq_true rfl, Nat.le_of_ble_eq_true rfl⟩ rfl rfl (Nat.le_of_ble_eq_true rfl) ⟨Nat.zero_le _, Nat.zero_le _⟩ h (fun u_1 h => ?_)
  refine kf0_f (P := V p l e zrX_put s m args below meth c A s.heap g 4 Q (wX g X N T Rd Fr Ac Ch PS Ly Pa OT Ea Ga Im0 Im1) 0 0 [] 22 []) h (fun h => ?_) (fun k_2 hk_2 h => ?_)
  · refine y_iconst cx d_X11_put_22 23 rfl ?_
    subst hQ
    obtain rfl := Option.some.inj h
    exact z_iret cx d_X11_put_23 rfl rfl
  refine y_if_eq cx d_X11_put_8 11 rfl 22 (by decide) rfl h (fun h => ?_) (fun h => ?_)
  · refine z_sub [] rfl ?_
    exact hk_2  h
  · refine z_aload_n cx d_X11_put_11 12 rfl rfl 0 rfl ?_
    refine z_get cx d_X11_put_12 15 rfl e_X rfl zX11 0 (by decide) q_537 rfl rfl ?_
    refine z_iload_n cx d_X11_put_15 16 rfl rfl 2 rfl ?_
    refine y_callV_i (As := [.int (zI a2)]) (rest := []) (W := fun u_3 => wX g X N T Rd Fr Ac Ch PS Ly Pa OT Ea Ga Im0 Im1) (rf := fun u_3 => zI u_3) (rm := zr0) cx (fun _ hq => tN_hasForest hq) d_X11_put_16 19 rfl kk_X5_hasForest q_724 q_725 q_726 rfl e_N rfl ⟨rfl, rfl⟩ ⟨Nat.le_of_ble_eq_true rfl, Nat.le_of_ble_eq_true rfl⟩ rfl rfl (Nat.le_of_ble_eq_true rfl) ⟨Nat.zero_le _, Nat.zero_le _⟩ h (fun u_3 h => ?_)
    refine y_if_ne cx d_X11_put_19 22 rfl 24 (by decide) rfl h (fun h => ?_) (fun h => ?_)
    · refine z_aload_n cx d_X11_put_24 25 rfl rfl 0 rfl ?_
      refine z_iload_n cx d_X11_put_25 26 rfl rfl 1 rfl ?_
      refine z_iload_n cx d_X11_put_26 27 rfl rfl 2 rfl ?_
      refine y_callV_i (As := [.int (zI a1), .int (zI a2)]) (rest := []) (W := fun u_4 => wX g X N T Rd Fr Ac u_4.2 PS Ly Pa OT Ea Ga Im0 Im1) (rf := fun u_4 => zI u_4.1) (rm := zrX_whyNotPut) cx (fun _ hq => tX_whyNotPut hq) d_X11_put_27 30 rfl kk_X11_whyNotPut q_776 q_778 q_12 rfl e_X rfl ⟨rfl, rfl⟩ ⟨Nat.le_of_ble_eq_true rfl, Nat.le_of_ble_eq_true rfl⟩ rfl rfl (Nat.le_of_ble_eq_true rfl) ⟨Nat.zero_le _, Nat.zero_le _⟩ h (fun u_4 h => ?_)
      refine y_istore_n cx d_X11_put_30 31 rfl rfl (by decide) (lv' := [(3, .int (zI u_4.1)), (0, .ref (g.2.2 0)), (1, .int (zI a1)), (2, .int (zI a2))]) rfl ?_
      refine z_iload_n cx d_X11_put_31 32 rfl rfl 0 rfl ?_
      refine kf2_f (P := fun (N_5 : ZB) (Ac_6 : ZA) => V p l e zrX_put s m args below meth c A s.heap g 4 Q (wX g X N_5 T Rd Fr Ac_6 u_4.2 PS Ly Pa OT Ea Ga Im0 Im1) 0 0 [(3, .int (zI u_4.1))] 59 []) h (fun N_5 Ac_6 h => ?_) (fun k_7 hk_7 h => ?_)
      · refine z_iload_n cx d_X11_put_59 60 rfl rfl 0 rfl ?_
        subst hQ
        obtain rfl := Option.some.inj h
        exact z_iret cx d_X11_put_60 rfl rfl
      refine y_if_ne cx d_X11_put_32 35 rfl 59 (by decide) rfl h (fun h => ?_) (fun h => ?_)
      · refine z_sub [0] rfl ?_
        exact hk_7 _ _ h
      · refine z_aload_n cx d_X11_put_35 36 rfl rfl 1 rfl ?_
        refine z_get cx d_X11_put_36 39 rfl e_X rfl zX11 3 (by decide) q_540 rfl rfl ?_
        refine y_callV_v (As := []) (rest := []) (W := fun u_8 => wX g X N T Rd Fr u_8 u_4.2 PS Ly Pa OT Ea Ga Im0 Im1) (rm := zrAc_before) cx (fun _ hq => tAc_before hq) d_X11_put_39 42 rfl kk_X0_before q_711 q_712 q_713 rfl e_Ac rfl ⟨rfl, rfl⟩ ⟨Nat.le_of_ble_eq_true rfl, Nat.le_of_ble_eq_true rfl⟩ rfl rfl (Nat.le_of_ble_eq_true rfl) ⟨Nat.zero_le _, Nat.zero_le _⟩ h (fun u_8 h => ?_)
        refine z_aload_n cx d_X11_put_42 43 rfl rfl 1 rfl ?_
        refine z_get cx d_X11_put_43 46 rfl e_X rfl zX11 0 (by decide) q_537 rfl rfl ?_
        refine z_get cx d_X11_put_46 49 rfl e_N rfl zX5 3 (by decide) q_168 rfl rfl ?_
        refine z_iload_n cx d_X11_put_49 50 rfl rfl 2 rfl ?_
        refine z_iload_n cx d_X11_put_50 51 rfl rfl 3 rfl ?_
        refine y_iast cx d_X11_put_51 52 rfl e_N_home (by decide) h (fun _ h9 => s_N_home h9) (fun N_9 h => ?_)
        refine z_aload_n cx d_X11_put_52 53 rfl rfl 1 rfl ?_
        refine z_get cx d_X11_put_53 56 rfl e_X rfl zX11 3 (by decide) q_540 rfl rfl ?_
        refine y_callV_v (As := []) (rest := []) (W := fun u_10 => wX g X N_9 T Rd Fr u_10 u_4.2 PS Ly Pa OT Ea Ga Im0 Im1) (rm := zr0) cx (fun _ hq => tAc_done hq) d_X11_put_56 59 rfl kk_X0_done q_716 q_717 q_718 rfl e_Ac rfl ⟨rfl, rfl⟩ ⟨Nat.le_of_ble_eq_true rfl, Nat.le_of_ble_eq_true rfl⟩ rfl rfl (Nat.le_of_ble_eq_true rfl) ⟨Nat.zero_le _, Nat.zero_le _⟩ h (fun u_10 h => ?_)
        refine z_sub [0] rfl ?_
        exact hk_7 _ _ h
    · refine z_sub [] rfl ?_
      exact hk_2  h
def zrX_lift : Room := { frames := 4, cells := 0, slots := 0, locals := 140 }
set_option maxHeartbeats 4000000 in
theorem tX_lift {l : Launch} {g : ZG} {X : ZB} {N : ZB} {T : ZB} {Rd : ZB} {Fr : ZB} {Ac : ZA} {Ch : ZB} {PS : ZB} {Ly : ZB} {Pa : ZQ} {OT : ZB} {Ea : ZB} {Ga : ZB} {Im0 : ZO} {Im1 : ZO} {a1 : Int} {r : Int × ZB × ZA} (h : fX_lift N Ac a1 = some r) : zMi l yX11_lift cX11_lift 3 (some .int) zrX_lift g [.ref (g.2.2 0), .int (zI a1)] (wX g X N T Rd Fr Ac Ch PS Ly Pa OT Ea Ga Im0 Im1) (wX g X r.2.1 T Rd Fr r.2.2 Ch PS Ly Pa OT Ea Ga Im0 Im1) (zI r.1) := by
  unfold fX_lift at h
  refine zMi_q (own := RX11) rfl (by decide +kernel) (Nat.le_of_ble_eq_true rfl) (lv := [(0, .ref (g.2.2 0)), (1, .int (zI a1))]) rfl ⟨rfl, rfl⟩ ?_
  intro p e s m args below meth c A Q hQ cx
  refine z_aload_n cx d_X11_lift_0 1 rfl rfl 0 rfl ?_
  refine z_get cx d_X11_lift_1 4 rfl e_X rfl zX11 0 (by decide) q_537 rfl rfl ?_
  refine z_iload_n cx d_X11_lift_4 5 rfl rfl 1 rfl ?_
  refine y_callV_i (As := [.int (zI a1)]) (rest := []) (W := fun u_1 => wX g X N T Rd Fr Ac Ch PS Ly Pa OT Ea Ga Im0 Im1) (rf := fun u_1 => zI u_1) (rm := zr0) cx (fun _ hq => tN_hasLine hq) d_X11_lift_5 8 rfl kk_X5_hasLine q_772 q_773 q_774 rfl e_N rfl ⟨rfl, rfl⟩ ⟨Nat.le_of_ble_eq_true rfl, Nat.le_of_ble_eq_true rfl⟩ rfl rfl (Nat.le_of_ble_eq_true rfl) ⟨Nat.zero_le _, Nat.zero_le _⟩ h (fun u_1 h => ?_)
  refine kf0_f (P := V p l e zrX_lift s m args below meth c A s.heap g 3 Q (wX g X N T Rd Fr Ac Ch PS Ly Pa OT Ea Ga Im0 Im1) 0 0 [] 24 []) h (fun h => ?_) (fun k_2 hk_2 h => ?_)
  · refine y_iconst cx d_X11_lift_24 25 rfl ?_
    subst hQ
    obtain rfl := Option.some.inj h
    exact z_iret cx d_X11_lift_25 rfl rfl
  refine y_if_eq cx d_X11_lift_8 11 rfl 24 (by decide) rfl h (fun h => ?_) (fun h => ?_)
  · refine z_sub [] rfl ?_
    exact hk_2  h
  · refine z_aload_n cx d_X11_lift_11 12 rfl rfl 0 rfl ?_
    refine z_get cx d_X11_lift_12 15 rfl e_X rfl zX11 0 (by decide) q_537 rfl rfl ?_
    refine z_get cx d_X11_lift_15 18 rfl e_N rfl zX5 3 (by decide) q_168 rfl rfl ?_
    refine z_iload_n cx d_X11_lift_18 19 rfl rfl 1 rfl ?_
    refine y_ialdx cx d_X11_lift_19 20 rfl e_N_home (by decide) h (fun x_3 h => ?_)
    refine y_iconst cx d_X11_lift_20 21 rfl ?_
    refine y_icmp_ne cx d_X11_lift_21 24 rfl 26 (by decide) rfl (nm_eq (x := (-1)) (by decide) (by decide)) h (fun h => ?_) (fun h => ?_)
    · refine z_aload_n cx d_X11_lift_26 27 rfl rfl 0 rfl ?_
      refine z_get cx d_X11_lift_27 30 rfl e_X rfl zX11 3 (by decide) q_540 rfl rfl ?_
      refine y_callV_v (As := []) (rest := []) (W := fun u_4 => wX g X N T Rd Fr u_4 Ch PS Ly Pa OT Ea Ga Im0 Im1) (rm := zrAc_before) cx (fun _ hq => tAc_before hq) d_X11_lift_30 33 rfl kk_X0_before q_711 q_712 q_713 rfl e_Ac rfl ⟨rfl, rfl⟩ ⟨Nat.le_of_ble_eq_true rfl, Nat.le_of_ble_eq_true rfl⟩ rfl rfl (Nat.le_of_ble_eq_true rfl) ⟨Nat.zero_le _, Nat.zero_le _⟩ h (fun u_4 h => ?_)
      refine z_aload_n cx d_X11_lift_33 34 rfl rfl 0 rfl ?_
      refine z_get cx d_X11_lift_34 37 rfl e_X rfl zX11 0 (by decide) q_537 rfl rfl ?_
      refine z_get cx d_X11_lift_37 40 rfl e_N rfl zX5 3 (by decide) q_168 rfl rfl ?_
      refine z_iload_n cx d_X11_lift_40 41 rfl rfl 1 rfl ?_
      refine y_ialdx cx d_X11_lift_41 42 rfl e_N_home (by decide) h (fun x_5 h => ?_)
      refine y_istore_n cx d_X11_lift_42 43 rfl rfl (by decide) (lv' := [(2, .int (zI x_5)), (0, .ref (g.2.2 0)), (1, .int (zI a1))]) rfl ?_
      refine z_aload_n cx d_X11_lift_43 44 rfl rfl 1 rfl ?_
      refine z_get cx d_X11_lift_44 47 rfl e_X rfl zX11 0 (by decide) q_537 rfl rfl ?_
      refine z_get cx d_X11_lift_47 50 rfl e_N rfl zX5 3 (by decide) q_168 rfl rfl ?_
      refine z_iload_n cx d_X11_lift_50 51 rfl rfl 2 rfl ?_
      refine y_iconst cx d_X11_lift_51 52 rfl ?_
      refine y_iast cx d_X11_lift_52 53 rfl e_N_home (by decide) h (fun _ h9 => s_N_home h9) (fun N_6 h => ?_)
      refine z_aload_n cx d_X11_lift_53 54 rfl rfl 1 rfl ?_
      refine z_get cx d_X11_lift_54 57 rfl e_X rfl zX11 3 (by decide) q_540 rfl rfl ?_
      refine y_callV_v (As := []) (rest := []) (W := fun u_7 => wX g X N_6 T Rd Fr u_7 Ch PS Ly Pa OT Ea Ga Im0 Im1) (rm := zr0) cx (fun _ hq => tAc_done hq) d_X11_lift_57 60 rfl kk_X0_done q_716 q_717 q_718 rfl e_Ac rfl ⟨rfl, rfl⟩ ⟨Nat.le_of_ble_eq_true rfl, Nat.le_of_ble_eq_true rfl⟩ rfl rfl (Nat.le_of_ble_eq_true rfl) ⟨Nat.zero_le _, Nat.zero_le _⟩ h (fun u_7 h => ?_)
      refine z_iload_n cx d_X11_lift_60 61 rfl rfl 0 rfl ?_
      subst hQ
      obtain rfl := Option.some.inj h
      exact z_iret cx d_X11_lift_61 rfl rfl
    · refine z_sub [] rfl ?_
      exact hk_2  h
def zrX_canBePlaced : Room := { frames := 1, cells := 0, slots := 0, locals := 21 }
set_option maxHeartbeats 4000000 in
theorem tX_canBePlaced {l : Launch} {g : ZG} {X : ZB} {N : ZB} {T : ZB} {Rd : ZB} {Fr : ZB} {Ac : ZA} {Ch : ZB} {PS : ZB} {Ly : ZB} {Pa : ZQ} {OT : ZB} {Ea : ZB} {Ga : ZB} {Im0 : ZO} {Im1 : ZO} {a1 : Int} {r : Int} (h : fX_canBePlaced N a1 = some r) : zMi l yX11_canBePlaced cX11_canBePlaced 2 (some .boolean) zrX_canBePlaced g [.ref (g.2.2 0), .int (zI a1)] (wX g X N T Rd Fr Ac Ch PS Ly Pa OT Ea Ga Im0 Im1) (wX g X N T Rd Fr Ac Ch PS Ly Pa OT Ea Ga Im0 Im1) (zI r) := by
  unfold fX_canBePlaced at h
  refine zMi_q (own := RX11) rfl (by decide +kernel) (Nat.le_of_ble_eq_true rfl) (lv := [(0, .ref (g.2.2 0)), (1, .int (zI a1))]) rfl ⟨rfl, rfl⟩ ?_
  intro p e s m args below meth c A Q hQ cx
  refine z_aload_n cx d_X11_canBePlaced_0 1 rfl rfl 0 rfl ?_
  refine z_get cx d_X11_canBePlaced_1 4 rfl e_X rfl zX11 0 (by decide) q_537 rfl rfl ?_
  refine z_iload_n cx d_X11_canBePlaced_4 5 rfl rfl 1 rfl ?_
  refine y_callV_i (As := [.int (zI a1)]) (rest := []) (W := fun u_1 => wX g X N T Rd Fr Ac Ch PS Ly Pa OT Ea Ga Im0 Im1) (rf := fun u_1 => zI u_1) (rm := zr0) cx (fun _ hq => tN_hasLine hq) d_X11_canBePlaced_5 8 rfl kk_X5_hasLine q_772 q_773 q_774 rfl e_N rfl ⟨rfl, rfl⟩ ⟨Nat.le_of_ble_eq_true rfl, Nat.le_of_ble_eq_true rfl⟩ rfl rfl (Nat.le_of_ble_eq_true rfl) ⟨Nat.zero_le _, Nat.zero_le _⟩ h (fun u_1 h => ?_)
  refine kf1_f (P := fun (w0_2 : Int) => V p l e zrX_canBePlaced s m args below meth c A s.heap g 2 Q (wX g X N T Rd Fr Ac Ch PS Ly Pa OT Ea Ga Im0 Im1) 0 0 [] 40 [.int (zI w0_2)]) h (fun w0_2 h => ?_) (fun k_3 hk_3 h => ?_)
  · obtain ⟨hz, h⟩ := zo_i h
    subst hQ
    obtain rfl := Option.some.inj h
    exact z_zret cx d_X11_canBePlaced_40 (zb01 hz) rfl rfl
  refine kf0_f (P := V p l e zrX_canBePlaced s m args below meth c A s.heap g 2 Q (wX g X N T Rd Fr Ac Ch PS Ly Pa OT Ea Ga Im0 Im1) 0 0 [] 39 []) h (fun h => ?_) (fun k_4 hk_4 h => ?_)
  · refine y_iconst cx d_X11_canBePlaced_39 40 rfl ?_
    exact hk_3 _ h
  refine y_if_eq cx d_X11_canBePlaced_8 11 rfl 39 (by decide) rfl h (fun h => ?_) (fun h => ?_)
  · refine z_sub [] rfl ?_
    exact hk_4  h
  · refine z_aload_n cx d_X11_canBePlaced_11 12 rfl rfl 0 rfl ?_
    refine z_get cx d_X11_canBePlaced_12 15 rfl e_X rfl zX11 0 (by decide) q_537 rfl rfl ?_
    refine z_iload_n cx d_X11_canBePlaced_15 16 rfl rfl 1 rfl ?_
    refine y_callV_i (As := [.int (zI a1)]) (rest := []) (W := fun u_5 => wX g X N T Rd Fr Ac Ch PS Ly Pa OT Ea Ga Im0 Im1) (rf := fun u_5 => zI u_5) (rm := zr0) cx (fun _ hq => tN_isSound hq) d_X11_canBePlaced_16 19 rfl kk_X5_isSound q_780 q_781 q_782 rfl e_N rfl ⟨rfl, rfl⟩ ⟨Nat.le_of_ble_eq_true rfl, Nat.le_of_ble_eq_true rfl⟩ rfl rfl (Nat.le_of_ble_eq_true rfl) ⟨Nat.zero_le _, Nat.zero_le _⟩ h (fun u_5 h => ?_)
    refine y_if_eq cx d_X11_canBePlaced_19 22 rfl 39 (by decide) rfl h (fun h => ?_) (fun h => ?_)
    · refine z_sub [] rfl ?_
      exact hk_4  h
    · refine z_aload_n cx d_X11_canBePlaced_22 23 rfl rfl 0 rfl ?_
      refine z_get cx d_X11_canBePlaced_23 26 rfl e_X rfl zX11 0 (by decide) q_537 rfl rfl ?_
      refine z_get cx d_X11_canBePlaced_26 29 rfl e_N rfl zX5 3 (by decide) q_168 rfl rfl ?_
      refine z_iload_n cx d_X11_canBePlaced_29 30 rfl rfl 1 rfl ?_
      refine y_ialdx cx d_X11_canBePlaced_30 31 rfl e_N_home (by decide) h (fun x_6 h => ?_)
      refine y_iconst cx d_X11_canBePlaced_31 32 rfl ?_
      refine y_icmp_ne cx d_X11_canBePlaced_32 35 rfl 39 (by decide) rfl (nm_eq (x := (-1)) (by decide) (by decide)) h (fun h => ?_) (fun h => ?_)
      · refine z_sub [] rfl ?_
        exact hk_4  h
      · refine y_iconst cx d_X11_canBePlaced_35 36 rfl ?_
        refine z_goto cx d_X11_canBePlaced_36 40 (by decide) ?_
        refine z_sub [] rfl ?_
        exact hk_3 _ h
def zrX_place : Room := { frames := 4, cells := 0, slots := 0, locals := 140 }
set_option maxHeartbeats 4000000 in
theorem tX_place {l : Launch} {g : ZG} {X : ZB} {N : ZB} {T : ZB} {Rd : ZB} {Fr : ZB} {Ac : ZA} {Ch : ZB} {PS : ZB} {Ly : ZB} {Pa : ZQ} {OT : ZB} {Ea : ZB} {Ga : ZB} {Im0 : ZO} {Im1 : ZO} {a1 : Int} {r : Int × ZB × ZA × ZB} (h : fX_place N Ac Ch a1 = some r) : zMi l yX11_place cX11_place 3 (some .int) zrX_place g [.ref (g.2.2 0), .int (zI a1)] (wX g X N T Rd Fr Ac Ch PS Ly Pa OT Ea Ga Im0 Im1) (wX g X r.2.1 T Rd Fr r.2.2.1 r.2.2.2 PS Ly Pa OT Ea Ga Im0 Im1) (zI r.1) := by
  unfold fX_place at h
  refine zMi_q (own := RX11) rfl (by decide +kernel) (Nat.le_of_ble_eq_true rfl) (lv := [(0, .ref (g.2.2 0)), (1, .int (zI a1))]) rfl ⟨rfl, rfl⟩ ?_
  intro p e s m args below meth c A Q hQ cx
  refine z_aload_n cx d_X11_place_0 1 rfl rfl 0 rfl ?_
  refine z_iload_n cx d_X11_place_1 2 rfl rfl 1 rfl ?_
  refine y_callV_i (As := [.int (zI a1)]) (rest := []) (W := fun u_1 => wX g X N T Rd Fr Ac Ch PS Ly Pa OT Ea Ga Im0 Im1) (rf := fun u_1 => zI u_1) (rm := zrX_canBePlaced) cx (fun _ hq => tX_canBePlaced hq) d_X11_place_2 5 rfl kk_X11_canBePlaced q_800 q_802 q_14 rfl e_X rfl ⟨rfl, rfl⟩ ⟨Nat.le_of_ble_eq_true rfl, Nat.le_of_ble_eq_true rfl⟩ rfl rfl (Nat.le_of_ble_eq_true rfl) ⟨Nat.zero_le _, Nat.zero_le _⟩ h (fun u_1 h => ?_)
  refine y_if_ne cx d_X11_place_5 8 rfl 10 (by decide) rfl h (fun h => ?_) (fun h => ?_)
  · refine z_aload_n cx d_X11_place_10 11 rfl rfl 0 rfl ?_
    refine z_get cx d_X11_place_11 14 rfl e_X rfl zX11 4 (by decide) q_541 rfl rfl ?_
    refine z_iload_n cx d_X11_place_14 15 rfl rfl 1 rfl ?_
    refine y_callV_i (As := [.int (zI a1)]) (rest := []) (W := fun u_2 => wX g X N T Rd Fr Ac u_2.2 PS Ly Pa OT Ea Ga Im0 Im1) (rf := fun u_2 => zI u_2.1) (rm := zrCh_find) cx (fun _ hq => tCh_find hq) d_X11_place_15 18 rfl kk_X1_find q_804 q_805 q_806 rfl e_Ch rfl ⟨rfl, rfl⟩ ⟨Nat.le_of_ble_eq_true rfl, Nat.le_of_ble_eq_true rfl⟩ rfl rfl (Nat.le_of_ble_eq_true rfl) ⟨Nat.zero_le _, Nat.zero_le _⟩ h (fun u_2 h => ?_)
    refine y_istore_n cx d_X11_place_18 19 rfl rfl (by decide) (lv' := [(2, .int (zI u_2.1)), (0, .ref (g.2.2 0)), (1, .int (zI a1))]) rfl ?_
    refine z_aload_n cx d_X11_place_19 20 rfl rfl 1 rfl ?_
    refine z_get cx d_X11_place_20 23 rfl e_X rfl zX11 4 (by decide) q_541 rfl rfl ?_
    refine y_callV_v (As := []) (rest := []) (W := fun u_3 => wX g X N T Rd Fr Ac u_3 PS Ly Pa OT Ea Ga Im0 Im1) (rm := zrCh_remember) cx (fun _ hq => tCh_remember hq) d_X11_place_23 26 rfl kk_X1_remember q_821 q_822 q_823 rfl e_Ch rfl ⟨rfl, rfl⟩ ⟨Nat.le_of_ble_eq_true rfl, Nat.le_of_ble_eq_true rfl⟩ rfl rfl (Nat.le_of_ble_eq_true rfl) ⟨Nat.zero_le _, Nat.zero_le _⟩ h (fun u_3 h => ?_)
    refine z_iload_n cx d_X11_place_26 27 rfl rfl 0 rfl ?_
    refine kf2_f (P := fun (N_4 : ZB) (Ac_5 : ZA) => V p l e zrX_place s m args below meth c A s.heap g 3 Q (wX g X N_4 T Rd Fr Ac_5 u_3 PS Ly Pa OT Ea Ga Im0 Im1) 0 0 [(2, .int (zI u_2.1))] 51 []) h (fun N_4 Ac_5 h => ?_) (fun k_6 hk_6 h => ?_)
    · refine z_iload_n cx d_X11_place_51 52 rfl rfl 0 rfl ?_
      subst hQ
      obtain rfl := Option.some.inj h
      exact z_iret cx d_X11_place_52 rfl rfl
    refine y_if_le cx d_X11_place_27 30 rfl 51 (by decide) rfl h (fun h => ?_) (fun h => ?_)
    · refine z_sub [0] rfl ?_
      exact hk_6 _ _ h
    · refine z_aload_n cx d_X11_place_30 31 rfl rfl 1 rfl ?_
      refine z_get cx d_X11_place_31 34 rfl e_X rfl zX11 3 (by decide) q_540 rfl rfl ?_
      refine y_callV_v (As := []) (rest := []) (W := fun u_7 => wX g X N T Rd Fr u_7 u_3 PS Ly Pa OT Ea Ga Im0 Im1) (rm := zrAc_before) cx (fun _ hq => tAc_before hq) d_X11_place_34 37 rfl kk_X0_before q_711 q_712 q_713 rfl e_Ac rfl ⟨rfl, rfl⟩ ⟨Nat.le_of_ble_eq_true rfl, Nat.le_of_ble_eq_true rfl⟩ rfl rfl (Nat.le_of_ble_eq_true rfl) ⟨Nat.zero_le _, Nat.zero_le _⟩ h (fun u_7 h => ?_)
      refine z_aload_n cx d_X11_place_37 38 rfl rfl 1 rfl ?_
      refine z_get cx d_X11_place_38 41 rfl e_X rfl zX11 4 (by decide) q_541 rfl rfl ?_
      refine y_callV_v (As := []) (rest := []) (W := fun u_8 => wX g X u_8 T Rd Fr u_7 u_3 PS Ly Pa OT Ea Ga Im0 Im1) (rm := zr0) cx (fun _ hq => tCh_carryOut hq) d_X11_place_41 44 rfl kk_X1_carryOut q_827 q_828 q_829 rfl e_Ch rfl ⟨rfl, rfl⟩ ⟨Nat.le_of_ble_eq_true rfl, Nat.le_of_ble_eq_true rfl⟩ rfl rfl (Nat.le_of_ble_eq_true rfl) ⟨Nat.zero_le _, Nat.zero_le _⟩ h (fun u_8 h => ?_)
      refine z_aload_n cx d_X11_place_44 45 rfl rfl 1 rfl ?_
      refine z_get cx d_X11_place_45 48 rfl e_X rfl zX11 3 (by decide) q_540 rfl rfl ?_
      refine y_callV_v (As := []) (rest := []) (W := fun u_9 => wX g X u_8 T Rd Fr u_9 u_3 PS Ly Pa OT Ea Ga Im0 Im1) (rm := zr0) cx (fun _ hq => tAc_done hq) d_X11_place_48 51 rfl kk_X0_done q_716 q_717 q_718 rfl e_Ac rfl ⟨rfl, rfl⟩ ⟨Nat.le_of_ble_eq_true rfl, Nat.le_of_ble_eq_true rfl⟩ rfl rfl (Nat.le_of_ble_eq_true rfl) ⟨Nat.zero_le _, Nat.zero_le _⟩ h (fun u_9 h => ?_)
      refine z_sub [0] rfl ?_
      exact hk_6 _ _ h
  · refine y_iconst cx d_X11_place_8 9 rfl ?_
    subst hQ
    obtain rfl := Option.some.inj h
    exact z_iret cx d_X11_place_9 rfl rfl
def zrX_chain : Room := { frames := 4, cells := 0, slots := 0, locals := 104 }
set_option maxHeartbeats 4000000 in
theorem tX_chain {l : Launch} {g : ZG} {X : ZB} {N : ZB} {T : ZB} {Rd : ZB} {Fr : ZB} {Ac : ZA} {Ch : ZB} {PS : ZB} {Ly : ZB} {Pa : ZQ} {OT : ZB} {Ea : ZB} {Ga : ZB} {Im0 : ZO} {Im1 : ZO} {a1 : Int} {r : Int × ZB} (h : fX_chain N Ch a1 = some r) : zMi l yX11_chain cX11_chain 3 (some .int) zrX_chain g [.ref (g.2.2 0), .int (zI a1)] (wX g X N T Rd Fr Ac Ch PS Ly Pa OT Ea Ga Im0 Im1) (wX g X N T Rd Fr Ac r.2 PS Ly Pa OT Ea Ga Im0 Im1) (zI r.1) := by
  unfold fX_chain at h
  refine zMi_q (own := RX11) rfl (by decide +kernel) (Nat.le_of_ble_eq_true rfl) (lv := [(0, .ref (g.2.2 0)), (1, .int (zI a1))]) rfl ⟨rfl, rfl⟩ ?_
  intro p e s m args below meth c A Q hQ cx
  refine z_aload_n cx d_X11_chain_0 1 rfl rfl 0 rfl ?_
  refine z_iload_n cx d_X11_chain_1 2 rfl rfl 1 rfl ?_
  refine y_callV_i (As := [.int (zI a1)]) (rest := []) (W := fun u_1 => wX g X N T Rd Fr Ac Ch PS Ly Pa OT Ea Ga Im0 Im1) (rf := fun u_1 => zI u_1) (rm := zrX_canBePlaced) cx (fun _ hq => tX_canBePlaced hq) d_X11_chain_2 5 rfl kk_X11_canBePlaced q_800 q_802 q_14 rfl e_X rfl ⟨rfl, rfl⟩ ⟨Nat.le_of_ble_eq_true rfl, Nat.le_of_ble_eq_true rfl⟩ rfl rfl (Nat.le_of_ble_eq_true rfl) ⟨Nat.zero_le _, Nat.zero_le _⟩ h (fun u_1 h => ?_)
  refine y_if_ne cx d_X11_chain_5 8 rfl 10 (by decide) rfl h (fun h => ?_) (fun h => ?_)
  · refine z_aload_n cx d_X11_chain_10 11 rfl rfl 0 rfl ?_
    refine z_get cx d_X11_chain_11 14 rfl e_X rfl zX11 4 (by decide) q_541 rfl rfl ?_
    refine z_iload_n cx d_X11_chain_14 15 rfl rfl 1 rfl ?_
    refine y_callV_i (As := [.int (zI a1)]) (rest := []) (W := fun u_2 => wX g X N T Rd Fr Ac u_2.2 PS Ly Pa OT Ea Ga Im0 Im1) (rf := fun u_2 => zI u_2.1) (rm := zrCh_find) cx (fun _ hq => tCh_find hq) d_X11_chain_15 18 rfl kk_X1_find q_804 q_805 q_806 rfl e_Ch rfl ⟨rfl, rfl⟩ ⟨Nat.le_of_ble_eq_true rfl, Nat.le_of_ble_eq_true rfl⟩ rfl rfl (Nat.le_of_ble_eq_true rfl) ⟨Nat.zero_le _, Nat.zero_le _⟩ h (fun u_2 h => ?_)
    refine y_istore_n cx d_X11_chain_18 19 rfl rfl (by decide) (lv' := [(2, .int (zI u_2.1)), (0, .ref (g.2.2 0)), (1, .int (zI a1))]) rfl ?_
    refine z_aload_n cx d_X11_chain_19 20 rfl rfl 1 rfl ?_
    refine z_get cx d_X11_chain_20 23 rfl e_X rfl zX11 4 (by decide) q_541 rfl rfl ?_
    refine y_callV_v (As := []) (rest := []) (W := fun u_3 => wX g X N T Rd Fr Ac u_3 PS Ly Pa OT Ea Ga Im0 Im1) (rm := zrCh_remember) cx (fun _ hq => tCh_remember hq) d_X11_chain_23 26 rfl kk_X1_remember q_821 q_822 q_823 rfl e_Ch rfl ⟨rfl, rfl⟩ ⟨Nat.le_of_ble_eq_true rfl, Nat.le_of_ble_eq_true rfl⟩ rfl rfl (Nat.le_of_ble_eq_true rfl) ⟨Nat.zero_le _, Nat.zero_le _⟩ h (fun u_3 h => ?_)
    refine z_iload_n cx d_X11_chain_26 27 rfl rfl 0 rfl ?_
    subst hQ
    obtain rfl := Option.some.inj h
    exact z_iret cx d_X11_chain_27 rfl rfl
  · refine y_iconst cx d_X11_chain_8 9 rfl ?_
    subst hQ
    obtain rfl := Option.some.inj h
    exact z_iret cx d_X11_chain_9 rfl rfl
def zrX_chainAt : Room := { frames := 1, cells := 0, slots := 0, locals := 22 }
set_option maxHeartbeats 4000000 in
theorem tX_chainAt {l : Launch} {g : ZG} {X : ZB} {N : ZB} {T : ZB} {Rd : ZB} {Fr : ZB} {Ac : ZA} {Ch : ZB} {PS : ZB} {Ly : ZB} {Pa : ZQ} {OT : ZB} {Ea : ZB} {Ga : ZB} {Im0 : ZO} {Im1 : ZO} {a1 : Int} {a2 : Int} {r : Int} (h : fX_chainAt Ch a1 a2 = some r) : zMi l yX11_chainAt cX11_chainAt 3 (some .int) zrX_chainAt g [.ref (g.2.2 0), .int (zI a1), .int (zI a2)] (wX g X N T Rd Fr Ac Ch PS Ly Pa OT Ea Ga Im0 Im1) (wX g X N T Rd Fr Ac Ch PS Ly Pa OT Ea Ga Im0 Im1) (zI r) := by
  unfold fX_chainAt at h
  refine zMi_q (own := RX11) rfl (by decide +kernel) (Nat.le_of_ble_eq_true rfl) (lv := [(0, .ref (g.2.2 0)), (1, .int (zI a1)), (2, .int (zI a2))]) rfl ⟨rfl, rfl⟩ ?_
  intro p e s m args below meth c A Q hQ cx
  refine z_aload_n cx d_X11_chainAt_0 1 rfl rfl 0 rfl ?_
  refine z_get cx d_X11_chainAt_1 4 rfl e_X rfl zX11 4 (by decide) q_541 rfl rfl ?_
  refine z_iload_n cx d_X11_chainAt_4 5 rfl rfl 1 rfl ?_
  refine z_iload_n cx d_X11_chainAt_5 6 rfl rfl 2 rfl ?_
  refine y_callV_i (As := [.int (zI a1), .int (zI a2)]) (rest := []) (W := fun u_1 => wX g X N T Rd Fr Ac Ch PS Ly Pa OT Ea Ga Im0 Im1) (rf := fun u_1 => zI u_1) (rm := zr0) cx (fun _ hq => tCh_toldAt hq) d_X11_chainAt_6 9 rfl kk_X1_toldAt q_839 q_840 q_841 rfl e_Ch rfl ⟨rfl, rfl⟩ ⟨Nat.le_of_ble_eq_true rfl, Nat.le_of_ble_eq_true rfl⟩ rfl rfl (Nat.le_of_ble_eq_true rfl) ⟨Nat.zero_le _, Nat.zero_le _⟩ h (fun u_1 h => ?_)
  subst hQ
  obtain rfl := Option.some.inj h
  exact z_iret cx d_X11_chainAt_9 rfl rfl
def zrX_crowd : Room := { frames := 1, cells := 0, slots := 0, locals := 20 }
set_option maxHeartbeats 4000000 in
theorem tX_crowd {l : Launch} {g : ZG} {X : ZB} {N : ZB} {T : ZB} {Rd : ZB} {Fr : ZB} {Ac : ZA} {Ch : ZB} {PS : ZB} {Ly : ZB} {Pa : ZQ} {OT : ZB} {Ea : ZB} {Ga : ZB} {Im0 : ZO} {Im1 : ZO}  {r : Int} (h : fX_crowd Ch = some r) : zMi l yX11_crowd cX11_crowd 1 (some .int) zrX_crowd g [.ref (g.2.2 0)] (wX g X N T Rd Fr Ac Ch PS Ly Pa OT Ea Ga Im0 Im1) (wX g X N T Rd Fr Ac Ch PS Ly Pa OT Ea Ga Im0 Im1) (zI r) := by
  unfold fX_crowd at h
  refine zMi_q (own := RX11) rfl (by decide +kernel) (Nat.le_of_ble_eq_true rfl) (lv := [(0, .ref (g.2.2 0))]) rfl ⟨rfl, rfl⟩ ?_
  intro p e s m args below meth c A Q hQ cx
  refine z_aload_n cx d_X11_crowd_0 1 rfl rfl 0 rfl ?_
  refine z_get cx d_X11_crowd_1 4 rfl e_X rfl zX11 4 (by decide) q_541 rfl rfl ?_
  refine y_callV_i (As := []) (rest := []) (W := fun u_1 => wX g X N T Rd Fr Ac Ch PS Ly Pa OT Ea Ga Im0 Im1) (rf := fun u_1 => zI u_1) (rm := zr0) cx (fun _ hq => tCh_toldCrowd hq) d_X11_crowd_4 7 rfl kk_X1_toldCrowd q_847 q_848 q_849 rfl e_Ch rfl ⟨rfl, rfl⟩ ⟨Nat.le_of_ble_eq_true rfl, Nat.le_of_ble_eq_true rfl⟩ rfl rfl (Nat.le_of_ble_eq_true rfl) ⟨Nat.zero_le _, Nat.zero_le _⟩ h (fun u_1 h => ?_)
  subst hQ
  obtain rfl := Option.some.inj h
  exact z_iret cx d_X11_crowd_7 rfl rfl
def zrX_pack : Room := { frames := 4, cells := 0, slots := 0, locals := 140 }
set_option maxHeartbeats 4000000 in
theorem tX_pack {l : Launch} {g : ZG} {X : ZB} {N : ZB} {T : ZB} {Rd : ZB} {Fr : ZB} {Ac : ZA} {Ch : ZB} {PS : ZB} {Ly : ZB} {Pa : ZQ} {OT : ZB} {Ea : ZB} {Ga : ZB} {Im0 : ZO} {Im1 : ZO}  {r : Int × ZB × ZA × ZB} (h : fX_pack N Ac Ch = some r) : zMi l yX11_pack cX11_pack 3 (some .int) zrX_pack g [.ref (g.2.2 0)] (wX g X N T Rd Fr Ac Ch PS Ly Pa OT Ea Ga Im0 Im1) (wX g X r.2.1 T Rd Fr r.2.2.1 r.2.2.2 PS Ly Pa OT Ea Ga Im0 Im1) (zI r.1) := by
  unfold fX_pack at h
  refine zMi_q (own := RX11) rfl (by decide +kernel) (Nat.le_of_ble_eq_true rfl) (lv := [(0, .ref (g.2.2 0))]) rfl ⟨rfl, rfl⟩ ?_
  intro p e s m args below meth c A Q hQ cx
  refine z_aload_n cx d_X11_pack_0 1 rfl rfl 0 rfl ?_
  refine z_get cx d_X11_pack_1 4 rfl e_X rfl zX11 3 (by decide) q_540 rfl rfl ?_
  refine y_callV_v (As := []) (rest := []) (W := fun u_1 => wX g X N T Rd Fr u_1 Ch PS Ly Pa OT Ea Ga Im0 Im1) (rm := zrAc_before) cx (fun _ hq => tAc_before hq) d_X11_pack_4 7 rfl kk_X0_before q_711 q_712 q_713 rfl e_Ac rfl ⟨rfl, rfl⟩ ⟨Nat.le_of_ble_eq_true rfl, Nat.le_of_ble_eq_true rfl⟩ rfl rfl (Nat.le_of_ble_eq_true rfl) ⟨Nat.zero_le _, Nat.zero_le _⟩ h (fun u_1 h => ?_)
  refine y_iconst cx d_X11_pack_7 8 rfl ?_
  refine y_istore_n cx d_X11_pack_8 9 rfl rfl (by decide) (lv' := [(1, .int (zI 0)), (0, .ref (g.2.2 0))]) rfl ?_
  refine y_iconst cx d_X11_pack_9 10 rfl ?_
  refine y_istore_n cx d_X11_pack_10 11 rfl rfl (by decide) (lv' := [(2, .int (zI 0)), (1, .int (zI 0)), (0, .ref (g.2.2 0))]) rfl ?_
  refine z_sub [2, 1, 0] rfl ?_
  refine lop4_f (P := fun (v1_2 : Int) (v2_3 : Int) (N_4 : ZB) (Ch_5 : ZB) => V p l e zrX_pack s m args below meth c A s.heap g 3 Q (wX g X N_4 T Rd Fr u_1 Ch_5 PS Ly Pa OT Ea Ga Im0 Im1) 0 0 [(0, .ref (g.2.2 0)), (1, .int (zI v1_2)), (2, .int (zI v2_3))] 11 []) (fun rec_6 hrec_6 v1_2 v2_3 N_4 Ch_5 h => ?_) _ _ _ _ _ h
  refine z_iload_n cx d_X11_pack_11 12 rfl rfl 2 rfl ?_
  refine z_aload_n cx d_X11_pack_12 13 rfl rfl 0 rfl ?_
  refine z_get cx d_X11_pack_13 16 rfl e_X rfl zX11 0 (by decide) q_537 rfl rfl ?_
  refine z_get cx d_X11_pack_16 19 rfl e_N rfl zX5 5 (by decide) q_185 rfl rfl ?_
  refine y_icmp_ge cx d_X11_pack_19 22 rfl 57 (by decide) rfl rfl h (fun h => ?_) (fun h => ?_)
  · refine z_iload_n cx d_X11_pack_57 58 rfl rfl 1 rfl ?_
    refine kf1_f (P := fun (Ac_7 : ZA) => V p l e zrX_pack s m args below meth c A s.heap g 3 Q (wX g X N_4 T Rd Fr Ac_7 Ch_5 PS Ly Pa OT Ea Ga Im0 Im1) 0 0 [(1, .int (zI v1_2))] 68 []) h (fun Ac_7 h => ?_) (fun k_8 hk_8 h => ?_)
    · refine z_iload_n cx d_X11_pack_68 69 rfl rfl 0 rfl ?_
      subst hQ
      obtain rfl := Option.some.inj h
      exact z_iret cx d_X11_pack_69 rfl rfl
    refine y_if_le cx d_X11_pack_58 61 rfl 68 (by decide) rfl h (fun h => ?_) (fun h => ?_)
    · refine z_sub [1] rfl ?_
      exact hk_8 _ h
    · refine z_aload_n cx d_X11_pack_61 62 rfl rfl 0 rfl ?_
      refine z_get cx d_X11_pack_62 65 rfl e_X rfl zX11 3 (by decide) q_540 rfl rfl ?_
      refine y_callV_v (As := []) (rest := []) (W := fun u_9 => wX g X N_4 T Rd Fr u_9 Ch_5 PS Ly Pa OT Ea Ga Im0 Im1) (rm := zr0) cx (fun _ hq => tAc_done hq) d_X11_pack_65 68 rfl kk_X0_done q_716 q_717 q_718 rfl e_Ac rfl ⟨rfl, rfl⟩ ⟨Nat.le_of_ble_eq_true rfl, Nat.le_of_ble_eq_true rfl⟩ rfl rfl (Nat.le_of_ble_eq_true rfl) ⟨Nat.zero_le _, Nat.zero_le _⟩ h (fun u_9 h => ?_)
      refine z_sub [1] rfl ?_
      exact hk_8 _ h
  · refine z_aload_n cx d_X11_pack_22 23 rfl rfl 0 rfl ?_
    refine z_iload_n cx d_X11_pack_23 24 rfl rfl 2 rfl ?_
    refine y_callV_i (As := [.int (zI v2_3)]) (rest := []) (W := fun u_10 => wX g X N_4 T Rd Fr u_1 Ch_5 PS Ly Pa OT Ea Ga Im0 Im1) (rf := fun u_10 => zI u_10) (rm := zrX_canBePlaced) cx (fun _ hq => tX_canBePlaced hq) d_X11_pack_24 27 rfl kk_X11_canBePlaced q_800 q_802 q_14 rfl e_X rfl ⟨rfl, rfl⟩ ⟨Nat.le_of_ble_eq_true rfl, Nat.le_of_ble_eq_true rfl⟩ rfl rfl (Nat.le_of_ble_eq_true rfl) ⟨Nat.zero_le _, Nat.zero_le _⟩ h (fun u_10 h => ?_)
    refine kf3_f (P := fun (v1_11 : Int) (N_12 : ZB) (Ch_13 : ZB) => V p l e zrX_pack s m args below meth c A s.heap g 3 Q (wX g X N_12 T Rd Fr u_1 Ch_13 PS Ly Pa OT Ea Ga Im0 Im1) 0 0 [(0, .ref (g.2.2 0)), (1, .int (zI v1_11)), (2, .int (zI v2_3))] 51 []) h (fun v1_11 N_12 Ch_13 h => ?_) (fun k_14 hk_14 h => ?_)
    · refine y_iinc cx 2 d_X11_pack_51 54 rfl rfl (by decide) (lv' := [(2, .int (zI (v2_3 + 1))), (0, .ref (g.2.2 0)), (1, .int (zI v1_11))]) rfl ?_
      refine z_goto cx d_X11_pack_54 11 (by decide) ?_
      refine z_sub [1, 2, 0] rfl ?_
      exact hrec_6 _ _ _ _ h
    refine y_if_eq cx d_X11_pack_27 30 rfl 51 (by decide) rfl h (fun h => ?_) (fun h => ?_)
    · exact hk_14 _ _ _ h
    · refine z_aload_n cx d_X11_pack_30 31 rfl rfl 0 rfl ?_
      refine z_get cx d_X11_pack_31 34 rfl e_X rfl zX11 4 (by decide) q_541 rfl rfl ?_
      refine z_iload_n cx d_X11_pack_34 35 rfl rfl 2 rfl ?_
      refine y_callV_i (As := [.int (zI v2_3)]) (rest := []) (W := fun u_15 => wX g X N_4 T Rd Fr u_1 u_15.2 PS Ly Pa OT Ea Ga Im0 Im1) (rf := fun u_15 => zI u_15.1) (rm := zrCh_find) cx (fun _ hq => tCh_find hq) d_X11_pack_35 38 rfl kk_X1_find q_804 q_805 q_806 rfl e_Ch rfl ⟨rfl, rfl⟩ ⟨Nat.le_of_ble_eq_true rfl, Nat.le_of_ble_eq_true rfl⟩ rfl rfl (Nat.le_of_ble_eq_true rfl) ⟨Nat.zero_le _, Nat.zero_le _⟩ h (fun u_15 h => ?_)
      refine y_if_le cx d_X11_pack_38 41 rfl 51 (by decide) rfl h (fun h => ?_) (fun h => ?_)
      · exact hk_14 _ _ _ h
      · refine z_aload_n cx d_X11_pack_41 42 rfl rfl 0 rfl ?_
        refine z_get cx d_X11_pack_42 45 rfl e_X rfl zX11 4 (by decide) q_541 rfl rfl ?_
        refine y_callV_v (As := []) (rest := []) (W := fun u_16 => wX g X u_16 T Rd Fr u_1 u_15.2 PS Ly Pa OT Ea Ga Im0 Im1) (rm := zr0) cx (fun _ hq => tCh_carryOut hq) d_X11_pack_45 48 rfl kk_X1_carryOut q_827 q_828 q_829 rfl e_Ch rfl ⟨rfl, rfl⟩ ⟨Nat.le_of_ble_eq_true rfl, Nat.le_of_ble_eq_true rfl⟩ rfl rfl (Nat.le_of_ble_eq_true rfl) ⟨Nat.zero_le _, Nat.zero_le _⟩ h (fun u_16 h => ?_)
        refine y_iinc cx 1 d_X11_pack_48 51 rfl rfl (by decide) (lv' := [(1, .int (zI (v1_2 + 1))), (0, .ref (g.2.2 0)), (2, .int (zI v2_3))]) rfl ?_
        refine z_sub [1, 0, 2] rfl ?_
        exact hk_14 _ _ _ h
def zrX_trade : Room := { frames := 4, cells := 0, slots := 0, locals := 140 }
set_option maxHeartbeats 4000000 in
theorem tX_trade {l : Launch} {g : ZG} {X : ZB} {N : ZB} {T : ZB} {Rd : ZB} {Fr : ZB} {Ac : ZA} {Ch : ZB} {PS : ZB} {Ly : ZB} {Pa : ZQ} {OT : ZB} {Ea : ZB} {Ga : ZB} {Im0 : ZO} {Im1 : ZO} {a1 : Int} {a2 : Int} {r : Int × ZB × ZA × ZB} (h : fX_trade N Ac Ch a1 a2 = some r) : zMi l yX11_trade cX11_trade 4 (some .int) zrX_trade g [.ref (g.2.2 0), .int (zI a1), .int (zI a2)] (wX g X N T Rd Fr Ac Ch PS Ly Pa OT Ea Ga Im0 Im1) (wX g X r.2.1 T Rd Fr r.2.2.1 r.2.2.2 PS Ly Pa OT Ea Ga Im0 Im1) (zI r.1) := by
  unfold fX_trade at h
  refine zMi_q (own := RX11) rfl (by decide +kernel) (Nat.le_of_ble_eq_true rfl) (lv := [(0, .ref (g.2.2 0)), (1, .int (zI a1)), (2, .int (zI a2))]) rfl ⟨rfl, rfl⟩ ?_
  intro p e s m args below meth c A Q hQ cx
  refine z_aload_n cx d_X11_trade_0 1 rfl rfl 0 rfl ?_
  refine z_get cx d_X11_trade_1 4 rfl e_X rfl zX11 0 (by decide) q_537 rfl rfl ?_
  refine z_iload_n cx d_X11_trade_4 5 rfl rfl 1 rfl ?_
  refine y_callV_i (As := [.int (zI a1)]) (rest := []) (W := fun u_1 => wX g X N T Rd Fr Ac Ch PS Ly Pa OT Ea Ga Im0 Im1) (rf := fun u_1 => zI u_1) (rm := zr0) cx (fun _ hq => tN_hasLine hq) d_X11_trade_5 8 rfl kk_X5_hasLine q_772 q_773 q_774 rfl e_N rfl ⟨rfl, rfl⟩ ⟨Nat.le_of_ble_eq_true rfl, Nat.le_of_ble_eq_true rfl⟩ rfl rfl (Nat.le_of_ble_eq_true rfl) ⟨Nat.zero_le _, Nat.zero_le _⟩ h (fun u_1 h => ?_)
  refine kf0_f (P := V p l e zrX_trade s m args below meth c A s.heap g 4 Q (wX g X N T Rd Fr Ac Ch PS Ly Pa OT Ea Ga Im0 Im1) 0 0 [] 22 []) h (fun h => ?_) (fun k_2 hk_2 h => ?_)
  · refine y_iconst cx d_X11_trade_22 23 rfl ?_
    subst hQ
    obtain rfl := Option.some.inj h
    exact z_iret cx d_X11_trade_23 rfl rfl
  refine y_if_eq cx d_X11_trade_8 11 rfl 22 (by decide) rfl h (fun h => ?_) (fun h => ?_)
  · refine z_sub [] rfl ?_
    exact hk_2  h
  · refine z_aload_n cx d_X11_trade_11 12 rfl rfl 0 rfl ?_
    refine z_get cx d_X11_trade_12 15 rfl e_X rfl zX11 0 (by decide) q_537 rfl rfl ?_
    refine z_iload_n cx d_X11_trade_15 16 rfl rfl 2 rfl ?_
    refine y_callV_i (As := [.int (zI a2)]) (rest := []) (W := fun u_3 => wX g X N T Rd Fr Ac Ch PS Ly Pa OT Ea Ga Im0 Im1) (rf := fun u_3 => zI u_3) (rm := zr0) cx (fun _ hq => tN_hasForest hq) d_X11_trade_16 19 rfl kk_X5_hasForest q_724 q_725 q_726 rfl e_N rfl ⟨rfl, rfl⟩ ⟨Nat.le_of_ble_eq_true rfl, Nat.le_of_ble_eq_true rfl⟩ rfl rfl (Nat.le_of_ble_eq_true rfl) ⟨Nat.zero_le _, Nat.zero_le _⟩ h (fun u_3 h => ?_)
    refine y_if_ne cx d_X11_trade_19 22 rfl 24 (by decide) rfl h (fun h => ?_) (fun h => ?_)
    · refine z_aload_n cx d_X11_trade_24 25 rfl rfl 0 rfl ?_
      refine z_get cx d_X11_trade_25 28 rfl e_X rfl zX11 4 (by decide) q_541 rfl rfl ?_
      refine z_iload_n cx d_X11_trade_28 29 rfl rfl 1 rfl ?_
      refine z_iload_n cx d_X11_trade_29 30 rfl rfl 2 rfl ?_
      refine y_callV_i (As := [.int (zI a1), .int (zI a2)]) (rest := []) (W := fun u_4 => wX g X N T Rd Fr Ac u_4.2 PS Ly Pa OT Ea Ga Im0 Im1) (rf := fun u_4 => zI u_4.1) (rm := zrCh_traded) cx (fun _ hq => tCh_traded hq) d_X11_trade_30 33 rfl kk_X1_traded q_859 q_860 q_861 rfl e_Ch rfl ⟨rfl, rfl⟩ ⟨Nat.le_of_ble_eq_true rfl, Nat.le_of_ble_eq_true rfl⟩ rfl rfl (Nat.le_of_ble_eq_true rfl) ⟨Nat.zero_le _, Nat.zero_le _⟩ h (fun u_4 h => ?_)
      refine y_istore_n cx d_X11_trade_33 34 rfl rfl (by decide) (lv' := [(3, .int (zI u_4.1)), (0, .ref (g.2.2 0)), (1, .int (zI a1)), (2, .int (zI a2))]) rfl ?_
      refine z_iload_n cx d_X11_trade_34 35 rfl rfl 0 rfl ?_
      refine y_iconst cx d_X11_trade_35 36 rfl ?_
      refine kf2_f (P := fun (N_5 : ZB) (Ac_6 : ZA) => V p l e zrX_trade s m args below meth c A s.heap g 4 Q (wX g X N_5 T Rd Fr Ac_6 u_4.2 PS Ly Pa OT Ea Ga Im0 Im1) 0 0 [(3, .int (zI u_4.1))] 62 []) h (fun N_5 Ac_6 h => ?_) (fun k_7 hk_7 h => ?_)
      · refine z_iload_n cx d_X11_trade_62 63 rfl rfl 0 rfl ?_
        subst hQ
        obtain rfl := Option.some.inj h
        exact z_iret cx d_X11_trade_63 rfl rfl
      refine y_icmp_eq cx d_X11_trade_36 39 rfl 62 (by decide) rfl (nm_eq (x := (-1)) (by decide) (by decide)) h (fun h => ?_) (fun h => ?_)
      · refine z_sub [0] rfl ?_
        exact hk_7 _ _ h
      · refine z_aload_n cx d_X11_trade_39 40 rfl rfl 1 rfl ?_
        refine z_get cx d_X11_trade_40 43 rfl e_X rfl zX11 3 (by decide) q_540 rfl rfl ?_
        refine y_callV_v (As := []) (rest := []) (W := fun u_8 => wX g X N T Rd Fr u_8 u_4.2 PS Ly Pa OT Ea Ga Im0 Im1) (rm := zrAc_before) cx (fun _ hq => tAc_before hq) d_X11_trade_43 46 rfl kk_X0_before q_711 q_712 q_713 rfl e_Ac rfl ⟨rfl, rfl⟩ ⟨Nat.le_of_ble_eq_true rfl, Nat.le_of_ble_eq_true rfl⟩ rfl rfl (Nat.le_of_ble_eq_true rfl) ⟨Nat.zero_le _, Nat.zero_le _⟩ h (fun u_8 h => ?_)
        refine z_aload_n cx d_X11_trade_46 47 rfl rfl 1 rfl ?_
        refine z_get cx d_X11_trade_47 50 rfl e_X rfl zX11 4 (by decide) q_541 rfl rfl ?_
        refine z_iload_n cx d_X11_trade_50 51 rfl rfl 2 rfl ?_
        refine z_iload_n cx d_X11_trade_51 52 rfl rfl 0 rfl ?_
        refine y_callV_v (As := [.int (zI a1), .int (zI u_4.1)]) (rest := []) (W := fun u_9 => wX g X u_9 T Rd Fr u_8 u_4.2 PS Ly Pa OT Ea Ga Im0 Im1) (rm := zr0) cx (fun _ hq => tCh_swap hq) d_X11_trade_52 55 rfl kk_X1_swap q_869 q_870 q_871 rfl e_Ch rfl ⟨rfl, rfl⟩ ⟨Nat.le_of_ble_eq_true rfl, Nat.le_of_ble_eq_true rfl⟩ rfl rfl (Nat.le_of_ble_eq_true rfl) ⟨Nat.zero_le _, Nat.zero_le _⟩ h (fun u_9 h => ?_)
        refine z_aload_n cx d_X11_trade_55 56 rfl rfl 1 rfl ?_
        refine z_get cx d_X11_trade_56 59 rfl e_X rfl zX11 3 (by decide) q_540 rfl rfl ?_
        refine y_callV_v (As := []) (rest := []) (W := fun u_10 => wX g X u_9 T Rd Fr u_10 u_4.2 PS Ly Pa OT Ea Ga Im0 Im1) (rm := zr0) cx (fun _ hq => tAc_done hq) d_X11_trade_59 62 rfl kk_X0_done q_716 q_717 q_718 rfl e_Ac rfl ⟨rfl, rfl⟩ ⟨Nat.le_of_ble_eq_true rfl, Nat.le_of_ble_eq_true rfl⟩ rfl rfl (Nat.le_of_ble_eq_true rfl) ⟨Nat.zero_le _, Nat.zero_le _⟩ h (fun u_10 h => ?_)
        refine z_sub [0] rfl ?_
        exact hk_7 _ _ h
    · refine z_sub [] rfl ?_
      exact hk_2  h
def zrX_breaks : Room := { frames := 4, cells := 0, slots := 0, locals := 140 }
set_option maxHeartbeats 4000000 in
theorem tX_breaks {l : Launch} {g : ZG} {X : ZB} {N : ZB} {T : ZB} {Rd : ZB} {Fr : ZB} {Ac : ZA} {Ch : ZB} {PS : ZB} {Ly : ZB} {Pa : ZQ} {OT : ZB} {Ea : ZB} {Ga : ZB} {Im0 : ZO} {Im1 : ZO} {a1 : Int} {r : Int × ZB × ZA} (h : fX_breaks N Ac a1 = some r) : zMi l yX11_breaks cX11_breaks 2 (some .int) zrX_breaks g [.ref (g.2.2 0), .int (zI a1)] (wX g X N T Rd Fr Ac Ch PS Ly Pa OT Ea Ga Im0 Im1) (wX g X r.2.1 T Rd Fr r.2.2 Ch PS Ly Pa OT Ea Ga Im0 Im1) (zI r.1) := by
  unfold fX_breaks at h
  refine zMi_q (own := RX11) rfl (by decide +kernel) (Nat.le_of_ble_eq_true rfl) (lv := [(0, .ref (g.2.2 0)), (1, .int (zI a1))]) rfl ⟨rfl, rfl⟩ ?_
  intro p e s m args below meth c A Q hQ cx
  refine z_aload_n cx d_X11_breaks_0 1 rfl rfl 0 rfl ?_
  refine z_get cx d_X11_breaks_1 4 rfl e_X rfl zX11 0 (by decide) q_537 rfl rfl ?_
  refine z_iload_n cx d_X11_breaks_4 5 rfl rfl 1 rfl ?_
  refine y_callV_i (As := [.int (zI a1)]) (rest := []) (W := fun u_1 => wX g X N T Rd Fr Ac Ch PS Ly Pa OT Ea Ga Im0 Im1) (rf := fun u_1 => zI u_1) (rm := zr0) cx (fun _ hq => tN_hasLine hq) d_X11_breaks_5 8 rfl kk_X5_hasLine q_772 q_773 q_774 rfl e_N rfl ⟨rfl, rfl⟩ ⟨Nat.le_of_ble_eq_true rfl, Nat.le_of_ble_eq_true rfl⟩ rfl rfl (Nat.le_of_ble_eq_true rfl) ⟨Nat.zero_le _, Nat.zero_le _⟩ h (fun u_1 h => ?_)
  refine y_if_ne cx d_X11_breaks_8 11 rfl 13 (by decide) rfl h (fun h => ?_) (fun h => ?_)
  · refine z_aload_n cx d_X11_breaks_13 14 rfl rfl 0 rfl ?_
    refine z_get cx d_X11_breaks_14 17 rfl e_X rfl zX11 0 (by decide) q_537 rfl rfl ?_
    refine z_iload_n cx d_X11_breaks_17 18 rfl rfl 1 rfl ?_
    refine y_callV_i (As := [.int (zI a1)]) (rest := []) (W := fun u_2 => wX g X N T Rd Fr Ac Ch PS Ly Pa OT Ea Ga Im0 Im1) (rf := fun u_2 => zI u_2) (rm := zr0) cx (fun _ hq => tN_isSound hq) d_X11_breaks_18 21 rfl kk_X5_isSound q_780 q_781 q_782 rfl e_N rfl ⟨rfl, rfl⟩ ⟨Nat.le_of_ble_eq_true rfl, Nat.le_of_ble_eq_true rfl⟩ rfl rfl (Nat.le_of_ble_eq_true rfl) ⟨Nat.zero_le _, Nat.zero_le _⟩ h (fun u_2 h => ?_)
    refine y_if_ne cx d_X11_breaks_21 24 rfl 26 (by decide) rfl h (fun h => ?_) (fun h => ?_)
    · refine z_aload_n cx d_X11_breaks_26 27 rfl rfl 0 rfl ?_
      refine z_get cx d_X11_breaks_27 30 rfl e_X rfl zX11 3 (by decide) q_540 rfl rfl ?_
      refine y_callV_v (As := []) (rest := []) (W := fun u_3 => wX g X N T Rd Fr u_3 Ch PS Ly Pa OT Ea Ga Im0 Im1) (rm := zrAc_before) cx (fun _ hq => tAc_before hq) d_X11_breaks_30 33 rfl kk_X0_before q_711 q_712 q_713 rfl e_Ac rfl ⟨rfl, rfl⟩ ⟨Nat.le_of_ble_eq_true rfl, Nat.le_of_ble_eq_true rfl⟩ rfl rfl (Nat.le_of_ble_eq_true rfl) ⟨Nat.zero_le _, Nat.zero_le _⟩ h (fun u_3 h => ?_)
      refine z_aload_n cx d_X11_breaks_33 34 rfl rfl 0 rfl ?_
      refine z_get cx d_X11_breaks_34 37 rfl e_X rfl zX11 0 (by decide) q_537 rfl rfl ?_
      refine z_iload_n cx d_X11_breaks_37 38 rfl rfl 1 rfl ?_
      refine y_callV_v (As := [.int (zI a1)]) (rest := []) (W := fun u_4 => wX g X u_4 T Rd Fr u_3 Ch PS Ly Pa OT Ea Ga Im0 Im1) (rm := zr0) cx (fun _ hq => tN_breakLine hq) d_X11_breaks_38 41 rfl kk_X5_breakLine q_877 q_878 q_879 rfl e_N rfl ⟨rfl, rfl⟩ ⟨Nat.le_of_ble_eq_true rfl, Nat.le_of_ble_eq_true rfl⟩ rfl rfl (Nat.le_of_ble_eq_true rfl) ⟨Nat.zero_le _, Nat.zero_le _⟩ h (fun u_4 h => ?_)
      refine z_aload_n cx d_X11_breaks_41 42 rfl rfl 0 rfl ?_
      refine z_get cx d_X11_breaks_42 45 rfl e_X rfl zX11 3 (by decide) q_540 rfl rfl ?_
      refine y_callV_v (As := []) (rest := []) (W := fun u_5 => wX g X u_4 T Rd Fr u_5 Ch PS Ly Pa OT Ea Ga Im0 Im1) (rm := zr0) cx (fun _ hq => tAc_done hq) d_X11_breaks_45 48 rfl kk_X0_done q_716 q_717 q_718 rfl e_Ac rfl ⟨rfl, rfl⟩ ⟨Nat.le_of_ble_eq_true rfl, Nat.le_of_ble_eq_true rfl⟩ rfl rfl (Nat.le_of_ble_eq_true rfl) ⟨Nat.zero_le _, Nat.zero_le _⟩ h (fun u_5 h => ?_)
      refine y_iconst cx d_X11_breaks_48 49 rfl ?_
      subst hQ
      obtain rfl := Option.some.inj h
      exact z_iret cx d_X11_breaks_49 rfl rfl
    · refine y_iconst cx d_X11_breaks_24 25 rfl ?_
      subst hQ
      obtain rfl := Option.some.inj h
      exact z_iret cx d_X11_breaks_25 rfl rfl
  · refine y_iconst cx d_X11_breaks_11 12 rfl ?_
    subst hQ
    obtain rfl := Option.some.inj h
    exact z_iret cx d_X11_breaks_12 rfl rfl
def zrX_mend : Room := { frames := 4, cells := 0, slots := 0, locals := 140 }
set_option maxHeartbeats 4000000 in
theorem tX_mend {l : Launch} {g : ZG} {X : ZB} {N : ZB} {T : ZB} {Rd : ZB} {Fr : ZB} {Ac : ZA} {Ch : ZB} {PS : ZB} {Ly : ZB} {Pa : ZQ} {OT : ZB} {Ea : ZB} {Ga : ZB} {Im0 : ZO} {Im1 : ZO} {a1 : Int} {r : Int × ZB × ZA} (h : fX_mend N Ac a1 = some r) : zMi l yX11_mend cX11_mend 2 (some .int) zrX_mend g [.ref (g.2.2 0), .int (zI a1)] (wX g X N T Rd Fr Ac Ch PS Ly Pa OT Ea Ga Im0 Im1) (wX g X r.2.1 T Rd Fr r.2.2 Ch PS Ly Pa OT Ea Ga Im0 Im1) (zI r.1) := by
  unfold fX_mend at h
  refine zMi_q (own := RX11) rfl (by decide +kernel) (Nat.le_of_ble_eq_true rfl) (lv := [(0, .ref (g.2.2 0)), (1, .int (zI a1))]) rfl ⟨rfl, rfl⟩ ?_
  intro p e s m args below meth c A Q hQ cx
  refine z_aload_n cx d_X11_mend_0 1 rfl rfl 0 rfl ?_
  refine z_get cx d_X11_mend_1 4 rfl e_X rfl zX11 0 (by decide) q_537 rfl rfl ?_
  refine z_iload_n cx d_X11_mend_4 5 rfl rfl 1 rfl ?_
  refine y_callV_i (As := [.int (zI a1)]) (rest := []) (W := fun u_1 => wX g X N T Rd Fr Ac Ch PS Ly Pa OT Ea Ga Im0 Im1) (rf := fun u_1 => zI u_1) (rm := zr0) cx (fun _ hq => tN_hasLine hq) d_X11_mend_5 8 rfl kk_X5_hasLine q_772 q_773 q_774 rfl e_N rfl ⟨rfl, rfl⟩ ⟨Nat.le_of_ble_eq_true rfl, Nat.le_of_ble_eq_true rfl⟩ rfl rfl (Nat.le_of_ble_eq_true rfl) ⟨Nat.zero_le _, Nat.zero_le _⟩ h (fun u_1 h => ?_)
  refine y_if_ne cx d_X11_mend_8 11 rfl 13 (by decide) rfl h (fun h => ?_) (fun h => ?_)
  · refine z_aload_n cx d_X11_mend_13 14 rfl rfl 0 rfl ?_
    refine z_get cx d_X11_mend_14 17 rfl e_X rfl zX11 0 (by decide) q_537 rfl rfl ?_
    refine z_iload_n cx d_X11_mend_17 18 rfl rfl 1 rfl ?_
    refine y_callV_i (As := [.int (zI a1)]) (rest := []) (W := fun u_2 => wX g X N T Rd Fr Ac Ch PS Ly Pa OT Ea Ga Im0 Im1) (rf := fun u_2 => zI u_2) (rm := zr0) cx (fun _ hq => tN_isSound hq) d_X11_mend_18 21 rfl kk_X5_isSound q_780 q_781 q_782 rfl e_N rfl ⟨rfl, rfl⟩ ⟨Nat.le_of_ble_eq_true rfl, Nat.le_of_ble_eq_true rfl⟩ rfl rfl (Nat.le_of_ble_eq_true rfl) ⟨Nat.zero_le _, Nat.zero_le _⟩ h (fun u_2 h => ?_)
    refine y_if_eq cx d_X11_mend_21 24 rfl 26 (by decide) rfl h (fun h => ?_) (fun h => ?_)
    · refine z_aload_n cx d_X11_mend_26 27 rfl rfl 0 rfl ?_
      refine z_get cx d_X11_mend_27 30 rfl e_X rfl zX11 3 (by decide) q_540 rfl rfl ?_
      refine y_callV_v (As := []) (rest := []) (W := fun u_3 => wX g X N T Rd Fr u_3 Ch PS Ly Pa OT Ea Ga Im0 Im1) (rm := zrAc_before) cx (fun _ hq => tAc_before hq) d_X11_mend_30 33 rfl kk_X0_before q_711 q_712 q_713 rfl e_Ac rfl ⟨rfl, rfl⟩ ⟨Nat.le_of_ble_eq_true rfl, Nat.le_of_ble_eq_true rfl⟩ rfl rfl (Nat.le_of_ble_eq_true rfl) ⟨Nat.zero_le _, Nat.zero_le _⟩ h (fun u_3 h => ?_)
      refine z_aload_n cx d_X11_mend_33 34 rfl rfl 0 rfl ?_
      refine z_get cx d_X11_mend_34 37 rfl e_X rfl zX11 0 (by decide) q_537 rfl rfl ?_
      refine z_iload_n cx d_X11_mend_37 38 rfl rfl 1 rfl ?_
      refine y_callV_v (As := [.int (zI a1)]) (rest := []) (W := fun u_4 => wX g X u_4 T Rd Fr u_3 Ch PS Ly Pa OT Ea Ga Im0 Im1) (rm := zr0) cx (fun _ hq => tN_mendLine hq) d_X11_mend_38 41 rfl kk_X5_mendLine q_885 q_886 q_887 rfl e_N rfl ⟨rfl, rfl⟩ ⟨Nat.le_of_ble_eq_true rfl, Nat.le_of_ble_eq_true rfl⟩ rfl rfl (Nat.le_of_ble_eq_true rfl) ⟨Nat.zero_le _, Nat.zero_le _⟩ h (fun u_4 h => ?_)
      refine z_aload_n cx d_X11_mend_41 42 rfl rfl 0 rfl ?_
      refine z_get cx d_X11_mend_42 45 rfl e_X rfl zX11 3 (by decide) q_540 rfl rfl ?_
      refine y_callV_v (As := []) (rest := []) (W := fun u_5 => wX g X u_4 T Rd Fr u_5 Ch PS Ly Pa OT Ea Ga Im0 Im1) (rm := zr0) cx (fun _ hq => tAc_done hq) d_X11_mend_45 48 rfl kk_X0_done q_716 q_717 q_718 rfl e_Ac rfl ⟨rfl, rfl⟩ ⟨Nat.le_of_ble_eq_true rfl, Nat.le_of_ble_eq_true rfl⟩ rfl rfl (Nat.le_of_ble_eq_true rfl) ⟨Nat.zero_le _, Nat.zero_le _⟩ h (fun u_5 h => ?_)
      refine y_iconst cx d_X11_mend_48 49 rfl ?_
      subst hQ
      obtain rfl := Option.some.inj h
      exact z_iret cx d_X11_mend_49 rfl rfl
    · refine y_iconst cx d_X11_mend_24 25 rfl ?_
      subst hQ
      obtain rfl := Option.some.inj h
      exact z_iret cx d_X11_mend_25 rfl rfl
  · refine y_iconst cx d_X11_mend_11 12 rfl ?_
    subst hQ
    obtain rfl := Option.some.inj h
    exact z_iret cx d_X11_mend_12 rfl rfl
def zrX_weigh : Room := { frames := 4, cells := 0, slots := 0, locals := 140 }
set_option maxHeartbeats 4000000 in
theorem tX_weigh {l : Launch} {g : ZG} {X : ZB} {N : ZB} {T : ZB} {Rd : ZB} {Fr : ZB} {Ac : ZA} {Ch : ZB} {PS : ZB} {Ly : ZB} {Pa : ZQ} {OT : ZB} {Ea : ZB} {Ga : ZB} {Im0 : ZO} {Im1 : ZO} {a1 : Int} {a2 : Int} {r : Int × ZB × ZA} (h : fX_weigh N Ac a1 a2 = some r) : zMi l yX11_weigh cX11_weigh 3 (some .int) zrX_weigh g [.ref (g.2.2 0), .int (zI a1), .int (zI a2)] (wX g X N T Rd Fr Ac Ch PS Ly Pa OT Ea Ga Im0 Im1) (wX g X r.2.1 T Rd Fr r.2.2 Ch PS Ly Pa OT Ea Ga Im0 Im1) (zI r.1) := by
  unfold fX_weigh at h
  refine zMi_q (own := RX11) rfl (by decide +kernel) (Nat.le_of_ble_eq_true rfl) (lv := [(0, .ref (g.2.2 0)), (1, .int (zI a1)), (2, .int (zI a2))]) rfl ⟨rfl, rfl⟩ ?_
  intro p e s m args below meth c A Q hQ cx
  refine z_aload_n cx d_X11_weigh_0 1 rfl rfl 0 rfl ?_
  refine z_get cx d_X11_weigh_1 4 rfl e_X rfl zX11 0 (by decide) q_537 rfl rfl ?_
  refine z_iload_n cx d_X11_weigh_4 5 rfl rfl 1 rfl ?_
  refine y_callV_i (As := [.int (zI a1)]) (rest := []) (W := fun u_1 => wX g X N T Rd Fr Ac Ch PS Ly Pa OT Ea Ga Im0 Im1) (rf := fun u_1 => zI u_1) (rm := zr0) cx (fun _ hq => tN_hasLine hq) d_X11_weigh_5 8 rfl kk_X5_hasLine q_772 q_773 q_774 rfl e_N rfl ⟨rfl, rfl⟩ ⟨Nat.le_of_ble_eq_true rfl, Nat.le_of_ble_eq_true rfl⟩ rfl rfl (Nat.le_of_ble_eq_true rfl) ⟨Nat.zero_le _, Nat.zero_le _⟩ h (fun u_1 h => ?_)
  refine kf0_f (P := V p l e zrX_weigh s m args below meth c A s.heap g 3 Q (wX g X N T Rd Fr Ac Ch PS Ly Pa OT Ea Ga Im0 Im1) 0 0 [] 22 []) h (fun h => ?_) (fun k_2 hk_2 h => ?_)
  · refine y_iconst cx d_X11_weigh_22 23 rfl ?_
    subst hQ
    obtain rfl := Option.some.inj h
    exact z_iret cx d_X11_weigh_23 rfl rfl
  refine y_if_eq cx d_X11_weigh_8 11 rfl 22 (by decide) rfl h (fun h => ?_) (fun h => ?_)
  · refine z_sub [] rfl ?_
    exact hk_2  h
  · refine z_iload_n cx d_X11_weigh_11 12 rfl rfl 2 rfl ?_
    refine y_iconst cx d_X11_weigh_12 13 rfl ?_
    refine y_icmp_lt cx d_X11_weigh_13 16 rfl 22 (by decide) rfl (nm_eq (x := 1) (by decide) (by decide)) h (fun h => ?_) (fun h => ?_)
    · refine z_sub [] rfl ?_
      exact hk_2  h
    · refine z_iload_n cx d_X11_weigh_16 17 rfl rfl 2 rfl ?_
      refine y_bipush cx d_X11_weigh_17 19 rfl (by decide) ?_
      refine y_icmp_le cx d_X11_weigh_19 22 rfl 24 (by decide) rfl (nm_eq (x := 99) (by decide) (by decide)) h (fun h => ?_) (fun h => ?_)
      · refine z_aload_n cx d_X11_weigh_24 25 rfl rfl 0 rfl ?_
        refine z_get cx d_X11_weigh_25 28 rfl e_X rfl zX11 0 (by decide) q_537 rfl rfl ?_
        refine z_get cx d_X11_weigh_28 31 rfl e_N rfl zX5 2 (by decide) q_163 rfl rfl ?_
        refine z_iload_n cx d_X11_weigh_31 32 rfl rfl 1 rfl ?_
        refine y_ialdx cx d_X11_weigh_32 33 rfl e_N_weight (by decide) h (fun x_3 h => ?_)
        refine z_iload_n cx d_X11_weigh_33 34 rfl rfl 2 rfl ?_
        refine y_icmp_ne cx d_X11_weigh_34 37 rfl 39 (by decide) rfl rfl h (fun h => ?_) (fun h => ?_)
        · refine z_aload_n cx d_X11_weigh_39 40 rfl rfl 0 rfl ?_
          refine z_get cx d_X11_weigh_40 43 rfl e_X rfl zX11 3 (by decide) q_540 rfl rfl ?_
          refine y_callV_v (As := []) (rest := []) (W := fun u_4 => wX g X N T Rd Fr u_4 Ch PS Ly Pa OT Ea Ga Im0 Im1) (rm := zrAc_before) cx (fun _ hq => tAc_before hq) d_X11_weigh_43 46 rfl kk_X0_before q_711 q_712 q_713 rfl e_Ac rfl ⟨rfl, rfl⟩ ⟨Nat.le_of_ble_eq_true rfl, Nat.le_of_ble_eq_true rfl⟩ rfl rfl (Nat.le_of_ble_eq_true rfl) ⟨Nat.zero_le _, Nat.zero_le _⟩ h (fun u_4 h => ?_)
          refine z_aload_n cx d_X11_weigh_46 47 rfl rfl 0 rfl ?_
          refine z_get cx d_X11_weigh_47 50 rfl e_X rfl zX11 0 (by decide) q_537 rfl rfl ?_
          refine z_get cx d_X11_weigh_50 53 rfl e_N rfl zX5 2 (by decide) q_163 rfl rfl ?_
          refine z_iload_n cx d_X11_weigh_53 54 rfl rfl 1 rfl ?_
          refine z_iload_n cx d_X11_weigh_54 55 rfl rfl 2 rfl ?_
          refine y_iast cx d_X11_weigh_55 56 rfl e_N_weight (by decide) h (fun _ h9 => s_N_weight h9) (fun N_5 h => ?_)
          refine z_aload_n cx d_X11_weigh_56 57 rfl rfl 0 rfl ?_
          refine z_get cx d_X11_weigh_57 60 rfl e_X rfl zX11 3 (by decide) q_540 rfl rfl ?_
          refine y_callV_v (As := []) (rest := []) (W := fun u_6 => wX g X N_5 T Rd Fr u_6 Ch PS Ly Pa OT Ea Ga Im0 Im1) (rm := zr0) cx (fun _ hq => tAc_done hq) d_X11_weigh_60 63 rfl kk_X0_done q_716 q_717 q_718 rfl e_Ac rfl ⟨rfl, rfl⟩ ⟨Nat.le_of_ble_eq_true rfl, Nat.le_of_ble_eq_true rfl⟩ rfl rfl (Nat.le_of_ble_eq_true rfl) ⟨Nat.zero_le _, Nat.zero_le _⟩ h (fun u_6 h => ?_)
          refine y_iconst cx d_X11_weigh_63 64 rfl ?_
          subst hQ
          obtain rfl := Option.some.inj h
          exact z_iret cx d_X11_weigh_64 rfl rfl
        · refine y_iconst cx d_X11_weigh_37 38 rfl ?_
          subst hQ
          obtain rfl := Option.some.inj h
          exact z_iret cx d_X11_weigh_38 rfl rfl
      · refine z_sub [] rfl ?_
        exact hk_2  h
def zrX_turn : Room := { frames := 4, cells := 0, slots := 0, locals := 140 }
set_option maxHeartbeats 4000000 in
theorem tX_turn {l : Launch} {g : ZG} {X : ZB} {N : ZB} {T : ZB} {Rd : ZB} {Fr : ZB} {Ac : ZA} {Ch : ZB} {PS : ZB} {Ly : ZB} {Pa : ZQ} {OT : ZB} {Ea : ZB} {Ga : ZB} {Im0 : ZO} {Im1 : ZO} {a1 : Int} {r : Int × ZB × ZA} (h : fX_turn N Ac a1 = some r) : zMi l yX11_turn cX11_turn 2 (some .int) zrX_turn g [.ref (g.2.2 0), .int (zI a1)] (wX g X N T Rd Fr Ac Ch PS Ly Pa OT Ea Ga Im0 Im1) (wX g X r.2.1 T Rd Fr r.2.2 Ch PS Ly Pa OT Ea Ga Im0 Im1) (zI r.1) := by
  unfold fX_turn at h
  refine zMi_q (own := RX11) rfl (by decide +kernel) (Nat.le_of_ble_eq_true rfl) (lv := [(0, .ref (g.2.2 0)), (1, .int (zI a1))]) rfl ⟨rfl, rfl⟩ ?_
  intro p e s m args below meth c A Q hQ cx
  refine z_aload_n cx d_X11_turn_0 1 rfl rfl 0 rfl ?_
  refine z_get cx d_X11_turn_1 4 rfl e_X rfl zX11 0 (by decide) q_537 rfl rfl ?_
  refine z_iload_n cx d_X11_turn_4 5 rfl rfl 1 rfl ?_
  refine y_callV_i (As := [.int (zI a1)]) (rest := []) (W := fun u_1 => wX g X N T Rd Fr Ac Ch PS Ly Pa OT Ea Ga Im0 Im1) (rf := fun u_1 => zI u_1) (rm := zr0) cx (fun _ hq => tN_hasLine hq) d_X11_turn_5 8 rfl kk_X5_hasLine q_772 q_773 q_774 rfl e_N rfl ⟨rfl, rfl⟩ ⟨Nat.le_of_ble_eq_true rfl, Nat.le_of_ble_eq_true rfl⟩ rfl rfl (Nat.le_of_ble_eq_true rfl) ⟨Nat.zero_le _, Nat.zero_le _⟩ h (fun u_1 h => ?_)
  refine y_if_ne cx d_X11_turn_8 11 rfl 13 (by decide) rfl h (fun h => ?_) (fun h => ?_)
  · refine z_aload_n cx d_X11_turn_13 14 rfl rfl 0 rfl ?_
    refine z_get cx d_X11_turn_14 17 rfl e_X rfl zX11 3 (by decide) q_540 rfl rfl ?_
    refine y_callV_v (As := []) (rest := []) (W := fun u_2 => wX g X N T Rd Fr u_2 Ch PS Ly Pa OT Ea Ga Im0 Im1) (rm := zrAc_before) cx (fun _ hq => tAc_before hq) d_X11_turn_17 20 rfl kk_X0_before q_711 q_712 q_713 rfl e_Ac rfl ⟨rfl, rfl⟩ ⟨Nat.le_of_ble_eq_true rfl, Nat.le_of_ble_eq_true rfl⟩ rfl rfl (Nat.le_of_ble_eq_true rfl) ⟨Nat.zero_le _, Nat.zero_le _⟩ h (fun u_2 h => ?_)
    refine z_aload_n cx d_X11_turn_20 21 rfl rfl 0 rfl ?_
    refine z_get cx d_X11_turn_21 24 rfl e_X rfl zX11 0 (by decide) q_537 rfl rfl ?_
    refine z_iload_n cx d_X11_turn_24 25 rfl rfl 1 rfl ?_
    refine y_callV_v (As := [.int (zI a1)]) (rest := []) (W := fun u_3 => wX g X u_3 T Rd Fr u_2 Ch PS Ly Pa OT Ea Ga Im0 Im1) (rm := zr0) cx (fun _ hq => tN_turnLine hq) d_X11_turn_25 28 rfl kk_X5_turnLine q_897 q_898 q_899 rfl e_N rfl ⟨rfl, rfl⟩ ⟨Nat.le_of_ble_eq_true rfl, Nat.le_of_ble_eq_true rfl⟩ rfl rfl (Nat.le_of_ble_eq_true rfl) ⟨Nat.zero_le _, Nat.zero_le _⟩ h (fun u_3 h => ?_)
    refine z_aload_n cx d_X11_turn_28 29 rfl rfl 0 rfl ?_
    refine z_get cx d_X11_turn_29 32 rfl e_X rfl zX11 3 (by decide) q_540 rfl rfl ?_
    refine y_callV_v (As := []) (rest := []) (W := fun u_4 => wX g X u_3 T Rd Fr u_4 Ch PS Ly Pa OT Ea Ga Im0 Im1) (rm := zr0) cx (fun _ hq => tAc_done hq) d_X11_turn_32 35 rfl kk_X0_done q_716 q_717 q_718 rfl e_Ac rfl ⟨rfl, rfl⟩ ⟨Nat.le_of_ble_eq_true rfl, Nat.le_of_ble_eq_true rfl⟩ rfl rfl (Nat.le_of_ble_eq_true rfl) ⟨Nat.zero_le _, Nat.zero_le _⟩ h (fun u_4 h => ?_)
    refine z_aload_n cx d_X11_turn_35 36 rfl rfl 0 rfl ?_
    refine z_get cx d_X11_turn_36 39 rfl e_X rfl zX11 0 (by decide) q_537 rfl rfl ?_
    refine z_iload_n cx d_X11_turn_39 40 rfl rfl 1 rfl ?_
    refine y_callV_i (As := [.int (zI a1)]) (rest := []) (W := fun u_5 => wX g X u_3 T Rd Fr u_4 Ch PS Ly Pa OT Ea Ga Im0 Im1) (rf := fun u_5 => zI u_5) (rm := zr0) cx (fun _ hq => tN_tail hq) d_X11_turn_40 43 rfl kk_X5_tail q_901 q_902 q_903 rfl e_N rfl ⟨rfl, rfl⟩ ⟨Nat.le_of_ble_eq_true rfl, Nat.le_of_ble_eq_true rfl⟩ rfl rfl (Nat.le_of_ble_eq_true rfl) ⟨Nat.zero_le _, Nat.zero_le _⟩ h (fun u_5 h => ?_)
    subst hQ
    obtain rfl := Option.some.inj h
    exact z_iret cx d_X11_turn_43 rfl rfl
  · refine y_iconst cx d_X11_turn_11 12 rfl ?_
    subst hQ
    obtain rfl := Option.some.inj h
    exact z_iret cx d_X11_turn_12 rfl rfl
def zrX_load : Room := { frames := 2, cells := 0, slots := 0, locals := 44 }
set_option maxHeartbeats 4000000 in
theorem tX_load {l : Launch} {g : ZG} {X : ZB} {N : ZB} {T : ZB} {Rd : ZB} {Fr : ZB} {Ac : ZA} {Ch : ZB} {PS : ZB} {Ly : ZB} {Pa : ZQ} {OT : ZB} {Ea : ZB} {Ga : ZB} {Im0 : ZO} {Im1 : ZO} {a1 : Int} {r : Int} (h : fX_load N a1 = some r) : zMi l yX11_load cX11_load 2 (some .int) zrX_load g [.ref (g.2.2 0), .int (zI a1)] (wX g X N T Rd Fr Ac Ch PS Ly Pa OT Ea Ga Im0 Im1) (wX g X N T Rd Fr Ac Ch PS Ly Pa OT Ea Ga Im0 Im1) (zI r) := by
  unfold fX_load at h
  refine zMi_q (own := RX11) rfl (by decide +kernel) (Nat.le_of_ble_eq_true rfl) (lv := [(0, .ref (g.2.2 0)), (1, .int (zI a1))]) rfl ⟨rfl, rfl⟩ ?_
  intro p e s m args below meth c A Q hQ cx
  refine z_iload_n cx d_X11_load_0 1 rfl rfl 1 rfl ?_
  refine kf1_f (P := fun (w0_1 : Int) => V p l e zrX_load s m args below meth c A s.heap g 2 Q (wX g X N T Rd Fr Ac Ch PS Ly Pa OT Ea Ga Im0 Im1) 0 0 [] 27 [.int (zI w0_1)]) h (fun w0_1 h => ?_) (fun k_2 hk_2 h => ?_)
  · subst hQ
    obtain rfl := Option.some.inj h
    exact z_iret cx d_X11_load_27 rfl rfl
  refine kf0_f (P := V p l e zrX_load s m args below meth c A s.heap g 2 Q (wX g X N T Rd Fr Ac Ch PS Ly Pa OT Ea Ga Im0 Im1) 0 0 [] 15 []) h (fun h => ?_) (fun k_3 hk_3 h => ?_)
  · refine y_iconst cx d_X11_load_15 16 rfl ?_
    refine z_goto cx d_X11_load_16 27 (by decide) ?_
    exact hk_2 _ h
  refine y_if_lt cx d_X11_load_1 4 rfl 15 (by decide) rfl h (fun h => ?_) (fun h => ?_)
  · refine z_sub [] rfl ?_
    exact hk_3  h
  · refine z_iload_n cx d_X11_load_4 5 rfl rfl 1 rfl ?_
    refine z_aload_n cx d_X11_load_5 6 rfl rfl 0 rfl ?_
    refine z_get cx d_X11_load_6 9 rfl e_X rfl zX11 0 (by decide) q_537 rfl rfl ?_
    refine z_get cx d_X11_load_9 12 rfl e_N rfl zX5 4 (by decide) q_178 rfl rfl ?_
    refine y_icmp_lt cx d_X11_load_12 15 rfl 19 (by decide) rfl rfl h (fun h => ?_) (fun h => ?_)
    · refine z_aload_n cx d_X11_load_19 20 rfl rfl 0 rfl ?_
      refine z_get cx d_X11_load_20 23 rfl e_X rfl zX11 0 (by decide) q_537 rfl rfl ?_
      refine z_iload_n cx d_X11_load_23 24 rfl rfl 1 rfl ?_
      refine y_callV_i (As := [.int (zI a1)]) (rest := []) (W := fun u_4 => wX g X N T Rd Fr Ac Ch PS Ly Pa OT Ea Ga Im0 Im1) (rf := fun u_4 => zI u_4) (rm := zrN_loadOf) cx (fun _ hq => tN_loadOf hq) d_X11_load_24 27 rfl kk_X5_loadOf q_909 q_910 q_911 rfl e_N rfl ⟨rfl, rfl⟩ ⟨Nat.le_of_ble_eq_true rfl, Nat.le_of_ble_eq_true rfl⟩ rfl rfl (Nat.le_of_ble_eq_true rfl) ⟨Nat.zero_le _, Nat.zero_le _⟩ h (fun u_4 h => ?_)
      refine z_sub [] rfl ?_
      exact hk_2 _ h
    · refine z_sub [] rfl ?_
      exact hk_3  h
def zrX_ease : Room := { frames := 4, cells := 0, slots := 0, locals := 140 }
set_option maxHeartbeats 4000000 in
theorem tX_ease {l : Launch} {g : ZG} {X : ZB} {N : ZB} {T : ZB} {Rd : ZB} {Fr : ZB} {Ac : ZA} {Ch : ZB} {PS : ZB} {Ly : ZB} {Pa : ZQ} {OT : ZB} {Ea : ZB} {Ga : ZB} {Im0 : ZO} {Im1 : ZO}  {r : Int × ZB × ZA × ZB} (h : fX_ease N Ac Ea = some r) : zMi l yX11_ease cX11_ease 2 (some .int) zrX_ease g [.ref (g.2.2 0)] (wX g X N T Rd Fr Ac Ch PS Ly Pa OT Ea Ga Im0 Im1) (wX g X r.2.1 T Rd Fr r.2.2.1 Ch PS Ly Pa OT r.2.2.2 Ga Im0 Im1) (zI r.1) := by
  unfold fX_ease at h
  refine zMi_q (own := RX11) rfl (by decide +kernel) (Nat.le_of_ble_eq_true rfl) (lv := [(0, .ref (g.2.2 0))]) rfl ⟨rfl, rfl⟩ ?_
  intro p e s m args below meth c A Q hQ cx
  refine z_aload_n cx d_X11_ease_0 1 rfl rfl 0 rfl ?_
  refine z_get cx d_X11_ease_1 4 rfl e_X rfl zX11 9 (by decide) q_546 rfl rfl ?_
  refine y_callV_i (As := []) (rest := []) (W := fun u_1 => wX g X N T Rd Fr Ac Ch PS Ly Pa OT u_1.2 Ga Im0 Im1) (rf := fun u_1 => zI u_1.1) (rm := zrEa_findWay) cx (fun _ hq => tEa_findWay hq) d_X11_ease_4 7 rfl kk_X2_findWay q_919 q_920 q_921 rfl e_Ea rfl ⟨rfl, rfl⟩ ⟨Nat.le_of_ble_eq_true rfl, Nat.le_of_ble_eq_true rfl⟩ rfl rfl (Nat.le_of_ble_eq_true rfl) ⟨Nat.zero_le _, Nat.zero_le _⟩ h (fun u_1 h => ?_)
  refine y_istore_n cx d_X11_ease_7 8 rfl rfl (by decide) (lv' := [(1, .int (zI u_1.1)), (0, .ref (g.2.2 0))]) rfl ?_
  refine z_iload_n cx d_X11_ease_8 9 rfl rfl 0 rfl ?_
  refine y_if_ne cx d_X11_ease_9 12 rfl 14 (by decide) rfl h (fun h => ?_) (fun h => ?_)
  · refine z_aload_n cx d_X11_ease_14 15 rfl rfl 1 rfl ?_
    refine z_get cx d_X11_ease_15 18 rfl e_X rfl zX11 3 (by decide) q_540 rfl rfl ?_
    refine y_callV_v (As := []) (rest := []) (W := fun u_2 => wX g X N T Rd Fr u_2 Ch PS Ly Pa OT u_1.2 Ga Im0 Im1) (rm := zrAc_before) cx (fun _ hq => tAc_before hq) d_X11_ease_18 21 rfl kk_X0_before q_711 q_712 q_713 rfl e_Ac rfl ⟨rfl, rfl⟩ ⟨Nat.le_of_ble_eq_true rfl, Nat.le_of_ble_eq_true rfl⟩ rfl rfl (Nat.le_of_ble_eq_true rfl) ⟨Nat.zero_le _, Nat.zero_le _⟩ h (fun u_2 h => ?_)
    refine z_aload_n cx d_X11_ease_21 22 rfl rfl 1 rfl ?_
    refine z_get cx d_X11_ease_22 25 rfl e_X rfl zX11 0 (by decide) q_537 rfl rfl ?_
    refine z_dup cx d_X11_ease_25 26 rfl rfl ?_
    refine z_get cx d_X11_ease_26 29 rfl e_N rfl zX5 8 (by decide) q_195 rfl rfl ?_
    refine z_iload_n cx d_X11_ease_29 30 rfl rfl 0 rfl ?_
    refine y_ixor cx d_X11_ease_30 31 rfl ?_
    refine y_put cx d_X11_ease_31 34 rfl e_N rfl zX5 tyX5_ok nmX5 8 (by decide) q_195 rfl rfl rfl rfl (Nat.le_of_ble_eq_true rfl) h (fun _ h9 => s_N_8 h9) (fun N_3 h => ?_)
    refine z_aload_n cx d_X11_ease_34 35 rfl rfl 1 rfl ?_
    refine z_get cx d_X11_ease_35 38 rfl e_X rfl zX11 3 (by decide) q_540 rfl rfl ?_
    refine y_callV_v (As := []) (rest := []) (W := fun u_4 => wX g X N_3 T Rd Fr u_4 Ch PS Ly Pa OT u_1.2 Ga Im0 Im1) (rm := zr0) cx (fun _ hq => tAc_done hq) d_X11_ease_38 41 rfl kk_X0_done q_716 q_717 q_718 rfl e_Ac rfl ⟨rfl, rfl⟩ ⟨Nat.le_of_ble_eq_true rfl, Nat.le_of_ble_eq_true rfl⟩ rfl rfl (Nat.le_of_ble_eq_true rfl) ⟨Nat.zero_le _, Nat.zero_le _⟩ h (fun u_4 h => ?_)
    refine z_iload_n cx d_X11_ease_41 42 rfl rfl 0 rfl ?_
    refine y_callS_i (As := [.int (zI u_1.1)]) (rest := []) (W := fun u_5 => wX g X N_3 T Rd Fr u_4 Ch PS Ly Pa OT u_1.2 Ga Im0 Im1) (rf := fun u_5 => zI u_5) (rm := zr0) cx (fun _ hq => tJI_bitCount hq) d_X11_ease_42 45 rfl kk_B_bitCount q_740 q_741 ⟨rfl, rfl⟩ ⟨Nat.le_of_ble_eq_true rfl, Nat.le_of_ble_eq_true rfl⟩ rfl rfl (Nat.le_of_ble_eq_true rfl) ⟨Nat.zero_le _, Nat.zero_le _⟩ h (fun u_5 h => ?_)
    subst hQ
    obtain rfl := Option.some.inj h
    exact z_iret cx d_X11_ease_45 rfl rfl
  · refine y_iconst cx d_X11_ease_12 13 rfl ?_
    subst hQ
    obtain rfl := Option.some.inj h
    exact z_iret cx d_X11_ease_13 rfl rfl
def zrX_game : Room := { frames := 4, cells := 0, slots := 0, locals := 92 }
set_option maxHeartbeats 4000000 in
theorem tX_game {l : Launch} {g : ZG} {X : ZB} {N : ZB} {T : ZB} {Rd : ZB} {Fr : ZB} {Ac : ZA} {Ch : ZB} {PS : ZB} {Ly : ZB} {Pa : ZQ} {OT : ZB} {Ea : ZB} {Ga : ZB} {Im0 : ZO} {Im1 : ZO}  {r : Int × ZB × ZB} (h : fX_game N T Ga = some r) : zMi l yX11_game cX11_game 2 (some .int) zrX_game g [.ref (g.2.2 0)] (wX g X N T Rd Fr Ac Ch PS Ly Pa OT Ea Ga Im0 Im1) (wX g X N r.2.1 Rd Fr Ac Ch PS Ly Pa OT Ea r.2.2 Im0 Im1) (zI r.1) := by
  unfold fX_game at h
  refine zMi_q (own := RX11) rfl (by decide +kernel) (Nat.le_of_ble_eq_true rfl) (lv := [(0, .ref (g.2.2 0))]) rfl ⟨rfl, rfl⟩ ?_
  intro p e s m args below meth c A Q hQ cx
  refine z_aload_n cx d_X11_game_0 1 rfl rfl 0 rfl ?_
  refine z_get cx d_X11_game_1 4 rfl e_X rfl zX11 10 (by decide) q_547 rfl rfl ?_
  refine y_callV_i (As := []) (rest := []) (W := fun u_1 => wX g X N T Rd Fr Ac Ch PS Ly Pa OT Ea u_1.2 Im0 Im1) (rf := fun u_1 => zI u_1.1) (rm := zrGa_run) cx (fun _ hq => tGa_run hq) d_X11_game_4 7 rfl kk_X3_run q_938 q_939 q_940 rfl e_Ga rfl ⟨rfl, rfl⟩ ⟨Nat.le_of_ble_eq_true rfl, Nat.le_of_ble_eq_true rfl⟩ rfl rfl (Nat.le_of_ble_eq_true rfl) ⟨Nat.zero_le _, Nat.zero_le _⟩ h (fun u_1 h => ?_)
  refine y_istore_n cx d_X11_game_7 8 rfl rfl (by decide) (lv' := [(1, .int (zI u_1.1)), (0, .ref (g.2.2 0))]) rfl ?_
  refine z_aload_n cx d_X11_game_8 9 rfl rfl 1 rfl ?_
  refine z_get cx d_X11_game_9 12 rfl e_X rfl zX11 1 (by decide) q_538 rfl rfl ?_
  refine y_iconst cx d_X11_game_12 13 rfl ?_
  refine y_callV_v (As := [.int (zI 0)]) (rest := []) (W := fun u_2 => wX g X N u_2 Rd Fr Ac Ch PS Ly Pa OT Ea u_1.2 Im0 Im1) (rm := zr0) cx (fun _ hq => tT_cut hq) d_X11_game_13 16 rfl kk_X10_cut q_597 q_598 q_599 rfl e_T rfl ⟨rfl, rfl⟩ ⟨Nat.le_of_ble_eq_true rfl, Nat.le_of_ble_eq_true rfl⟩ rfl rfl (Nat.le_of_ble_eq_true rfl) ⟨Nat.zero_le _, Nat.zero_le _⟩ h (fun u_2 h => ?_)
  refine z_iload_n cx d_X11_game_16 17 rfl rfl 0 rfl ?_
  subst hQ
  obtain rfl := Option.some.inj h
  exact z_iret cx d_X11_game_17 rfl rfl
def zrX_keptAt : Room := { frames := 1, cells := 0, slots := 0, locals := 21 }
set_option maxHeartbeats 4000000 in
theorem tX_keptAt {l : Launch} {g : ZG} {X : ZB} {N : ZB} {T : ZB} {Rd : ZB} {Fr : ZB} {Ac : ZA} {Ch : ZB} {PS : ZB} {Ly : ZB} {Pa : ZQ} {OT : ZB} {Ea : ZB} {Ga : ZB} {Im0 : ZO} {Im1 : ZO} {a1 : Int} {r : Int} (h : fX_keptAt Ga a1 = some r) : zMi l yX11_keptAt cX11_keptAt 2 (some .int) zrX_keptAt g [.ref (g.2.2 0), .int (zI a1)] (wX g X N T Rd Fr Ac Ch PS Ly Pa OT Ea Ga Im0 Im1) (wX g X N T Rd Fr Ac Ch PS Ly Pa OT Ea Ga Im0 Im1) (zI r) := by
  unfold fX_keptAt at h
  refine zMi_q (own := RX11) rfl (by decide +kernel) (Nat.le_of_ble_eq_true rfl) (lv := [(0, .ref (g.2.2 0)), (1, .int (zI a1))]) rfl ⟨rfl, rfl⟩ ?_
  intro p e s m args below meth c A Q hQ cx
  refine z_aload_n cx d_X11_keptAt_0 1 rfl rfl 0 rfl ?_
  refine z_get cx d_X11_keptAt_1 4 rfl e_X rfl zX11 10 (by decide) q_547 rfl rfl ?_
  refine z_iload_n cx d_X11_keptAt_4 5 rfl rfl 1 rfl ?_
  refine y_callV_i (As := [.int (zI a1)]) (rest := []) (W := fun u_1 => wX g X N T Rd Fr Ac Ch PS Ly Pa OT Ea Ga Im0 Im1) (rf := fun u_1 => zI u_1) (rm := zr0) cx (fun _ hq => tGa_toldAt hq) d_X11_keptAt_5 8 rfl kk_X3_toldAt q_960 q_961 q_962 rfl e_Ga rfl ⟨rfl, rfl⟩ ⟨Nat.le_of_ble_eq_true rfl, Nat.le_of_ble_eq_true rfl⟩ rfl rfl (Nat.le_of_ble_eq_true rfl) ⟨Nat.zero_le _, Nat.zero_le _⟩ h (fun u_1 h => ?_)
  subst hQ
  obtain rfl := Option.some.inj h
  exact z_iret cx d_X11_keptAt_8 rfl rfl
def zrX_undo : Room := { frames := 4, cells := 0, slots := 0, locals := 140 }
set_option maxHeartbeats 4000000 in
theorem tX_undo {l : Launch} {g : ZG} {X : ZB} {N : ZB} {T : ZB} {Rd : ZB} {Fr : ZB} {Ac : ZA} {Ch : ZB} {PS : ZB} {Ly : ZB} {Pa : ZQ} {OT : ZB} {Ea : ZB} {Ga : ZB} {Im0 : ZO} {Im1 : ZO}  {r : Int × ZB × ZA} (h : fX_undo N Ac = some r) : zMi l yX11_undo cX11_undo 1 (some .int) zrX_undo g [.ref (g.2.2 0)] (wX g X N T Rd Fr Ac Ch PS Ly Pa OT Ea Ga Im0 Im1) (wX g X r.2.1 T Rd Fr r.2.2 Ch PS Ly Pa OT Ea Ga Im0 Im1) (zI r.1) := by
  unfold fX_undo at h
  refine zMi_q (own := RX11) rfl (by decide +kernel) (Nat.le_of_ble_eq_true rfl) (lv := [(0, .ref (g.2.2 0))]) rfl ⟨rfl, rfl⟩ ?_
  intro p e s m args below meth c A Q hQ cx
  refine z_aload_n cx d_X11_undo_0 1 rfl rfl 0 rfl ?_
  refine z_get cx d_X11_undo_1 4 rfl e_X rfl zX11 3 (by decide) q_540 rfl rfl ?_
  refine y_callV_i (As := []) (rest := []) (W := fun u_1 => wX g X u_1.2.1 T Rd Fr u_1.2.2 Ch PS Ly Pa OT Ea Ga Im0 Im1) (rf := fun u_1 => zI u_1.1) (rm := zrAc_takeBack) cx (fun _ hq => tAc_takeBack hq) d_X11_undo_4 7 rfl kk_X0_takeBack q_968 q_969 q_970 rfl e_Ac rfl ⟨rfl, rfl⟩ ⟨Nat.le_of_ble_eq_true rfl, Nat.le_of_ble_eq_true rfl⟩ rfl rfl (Nat.le_of_ble_eq_true rfl) ⟨Nat.zero_le _, Nat.zero_le _⟩ h (fun u_1 h => ?_)
  refine kf1_f (P := fun (w0_2 : Int) => V p l e zrX_undo s m args below meth c A s.heap g 1 Q (wX g X u_1.2.1 T Rd Fr u_1.2.2 Ch PS Ly Pa OT Ea Ga Im0 Im1) 0 0 [] 21 [.int (zI w0_2)]) h (fun w0_2 h => ?_) (fun k_3 hk_3 h => ?_)
  · subst hQ
    obtain rfl := Option.some.inj h
    exact z_iret cx d_X11_undo_21 rfl rfl
  refine y_if_eq cx d_X11_undo_7 10 rfl 20 (by decide) rfl h (fun h => ?_) (fun h => ?_)
  · refine y_iconst cx d_X11_undo_20 21 rfl ?_
    refine z_sub [] rfl ?_
    exact hk_3 _ h
  · refine z_aload_n cx d_X11_undo_10 11 rfl rfl 0 rfl ?_
    refine z_get cx d_X11_undo_11 14 rfl e_X rfl zX11 3 (by decide) q_540 rfl rfl ?_
    refine y_callV_i (As := []) (rest := []) (W := fun u_4 => wX g X u_1.2.1 T Rd Fr u_1.2.2 Ch PS Ly Pa OT Ea Ga Im0 Im1) (rf := fun u_4 => zI u_4) (rm := zr0) cx (fun _ hq => tAc_count hq) d_X11_undo_14 17 rfl kk_X0_count q_764 q_765 q_766 rfl e_Ac rfl ⟨rfl, rfl⟩ ⟨Nat.le_of_ble_eq_true rfl, Nat.le_of_ble_eq_true rfl⟩ rfl rfl (Nat.le_of_ble_eq_true rfl) ⟨Nat.zero_le _, Nat.zero_le _⟩ h (fun u_4 h => ?_)
    refine z_goto cx d_X11_undo_17 21 (by decide) ?_
    refine z_sub [] rfl ?_
    exact hk_3 _ h
def zrX_most : Room := { frames := 4, cells := 0, slots := 0, locals := 90 }
set_option maxHeartbeats 4000000 in
theorem tX_most {l : Launch} {g : ZG} {X : ZB} {N : ZB} {T : ZB} {Rd : ZB} {Fr : ZB} {Ac : ZA} {Ch : ZB} {PS : ZB} {Ly : ZB} {Pa : ZQ} {OT : ZB} {Ea : ZB} {Ga : ZB} {Im0 : ZO} {Im1 : ZO} {a1 : Int} {r : Int × ZB} (h : fX_most N PS a1 = some r) : zMi l yX11_most cX11_most 2 (some .int) zrX_most g [.ref (g.2.2 0), .int (zI a1)] (wX g X N T Rd Fr Ac Ch PS Ly Pa OT Ea Ga Im0 Im1) (wX g X N T Rd Fr Ac Ch r.2 Ly Pa OT Ea Ga Im0 Im1) (zI r.1) := by
  unfold fX_most at h
  refine zMi_q (own := RX11) rfl (by decide +kernel) (Nat.le_of_ble_eq_true rfl) (lv := [(0, .ref (g.2.2 0)), (1, .int (zI a1))]) rfl ⟨rfl, rfl⟩ ?_
  intro p e s m args below meth c A Q hQ cx
  refine z_iload_n cx d_X11_most_0 1 rfl rfl 1 rfl ?_
  refine kf2_f (P := fun (w0_1 : Int) (PS_2 : ZB) => V p l e zrX_most s m args below meth c A s.heap g 2 Q (wX g X N T Rd Fr Ac Ch PS_2 Ly Pa OT Ea Ga Im0 Im1) 0 0 [] 25 [.int (zI w0_1)]) h (fun w0_1 PS_2 h => ?_) (fun k_3 hk_3 h => ?_)
  · subst hQ
    obtain rfl := Option.some.inj h
    exact z_iret cx d_X11_most_25 rfl rfl
  refine kf0_f (P := V p l e zrX_most s m args below meth c A s.heap g 2 Q (wX g X N T Rd Fr Ac Ch PS Ly Pa OT Ea Ga Im0 Im1) 0 0 [] 10 []) h (fun h => ?_) (fun k_4 hk_4 h => ?_)
  · refine y_iconst cx d_X11_most_10 11 rfl ?_
    refine z_goto cx d_X11_most_11 25 (by decide) ?_
    exact hk_3 _ _ h
  refine y_if_lt cx d_X11_most_1 4 rfl 10 (by decide) rfl h (fun h => ?_) (fun h => ?_)
  · refine z_sub [] rfl ?_
    exact hk_4  h
  · refine z_iload_n cx d_X11_most_4 5 rfl rfl 1 rfl ?_
    refine y_bipush cx d_X11_most_5 7 rfl (by decide) ?_
    refine y_icmp_le cx d_X11_most_7 10 rfl 14 (by decide) rfl (nm_eq (x := 24) (by decide) (by decide)) h (fun h => ?_) (fun h => ?_)
    · refine z_aload_n cx d_X11_most_14 15 rfl rfl 0 rfl ?_
      refine z_get cx d_X11_most_15 18 rfl e_X rfl zX11 5 (by decide) q_542 rfl rfl ?_
      refine z_iload_n cx d_X11_most_18 19 rfl rfl 1 rfl ?_
      refine y_callV_i (As := [.int (zI a1)]) (rest := []) (W := fun u_5 => wX g X N T Rd Fr Ac Ch u_5.2 Ly Pa OT Ea Ga Im0 Im1) (rf := fun u_5 => zI u_5.1) (rm := zrPS_takeByNumber) cx (fun _ hq => tPS_takeByNumber hq) d_X11_most_19 22 rfl kk_X8_takeByNumber q_976 q_977 q_978 rfl e_PS rfl ⟨rfl, rfl⟩ ⟨Nat.le_of_ble_eq_true rfl, Nat.le_of_ble_eq_true rfl⟩ rfl rfl (Nat.le_of_ble_eq_true rfl) ⟨Nat.zero_le _, Nat.zero_le _⟩ h (fun u_5 h => ?_)
      refine y_callS_i (As := [.int (zI u_5.1)]) (rest := []) (W := fun u_6 => wX g X N T Rd Fr Ac Ch u_5.2 Ly Pa OT Ea Ga Im0 Im1) (rf := fun u_6 => zI u_6) (rm := zr0) cx (fun _ hq => tJI_bitCount hq) d_X11_most_22 25 rfl kk_B_bitCount q_740 q_741 ⟨rfl, rfl⟩ ⟨Nat.le_of_ble_eq_true rfl, Nat.le_of_ble_eq_true rfl⟩ rfl rfl (Nat.le_of_ble_eq_true rfl) ⟨Nat.zero_le _, Nat.zero_le _⟩ h (fun u_6 h => ?_)
      refine z_sub [] rfl ?_
      exact hk_3 _ _ h
    · refine z_sub [] rfl ?_
      exact hk_4  h
def zrX_fewest : Room := { frames := 5, cells := 0, slots := 0, locals := 110 }
set_option maxHeartbeats 4000000 in
theorem tX_fewest {l : Launch} {g : ZG} {X : ZB} {N : ZB} {T : ZB} {Rd : ZB} {Fr : ZB} {Ac : ZA} {Ch : ZB} {PS : ZB} {Ly : ZB} {Pa : ZQ} {OT : ZB} {Ea : ZB} {Ga : ZB} {Im0 : ZO} {Im1 : ZO}  {r : Int × ZB} (h : fX_fewest N PS = some r) : zMi l yX11_fewest cX11_fewest 1 (some .int) zrX_fewest g [.ref (g.2.2 0)] (wX g X N T Rd Fr Ac Ch PS Ly Pa OT Ea Ga Im0 Im1) (wX g X N T Rd Fr Ac Ch r.2 Ly Pa OT Ea Ga Im0 Im1) (zI r.1) := by
  unfold fX_fewest at h
  refine zMi_q (own := RX11) rfl (by decide +kernel) (Nat.le_of_ble_eq_true rfl) (lv := [(0, .ref (g.2.2 0))]) rfl ⟨rfl, rfl⟩ ?_
  intro p e s m args below meth c A Q hQ cx
  refine z_aload_n cx d_X11_fewest_0 1 rfl rfl 0 rfl ?_
  refine z_get cx d_X11_fewest_1 4 rfl e_X rfl zX11 5 (by decide) q_542 rfl rfl ?_
  refine y_callV_i (As := []) (rest := []) (W := fun u_1 => wX g X N T Rd Fr Ac Ch u_1.2 Ly Pa OT Ea Ga Im0 Im1) (rf := fun u_1 => zI u_1.1) (rm := zrPS_fewestForests) cx (fun _ hq => tPS_fewestForests hq) d_X11_fewest_4 7 rfl kk_X8_fewestForests q_1003 q_1004 q_1005 rfl e_PS rfl ⟨rfl, rfl⟩ ⟨Nat.le_of_ble_eq_true rfl, Nat.le_of_ble_eq_true rfl⟩ rfl rfl (Nat.le_of_ble_eq_true rfl) ⟨Nat.zero_le _, Nat.zero_le _⟩ h (fun u_1 h => ?_)
  subst hQ
  obtain rfl := Option.some.inj h
  exact z_iret cx d_X11_fewest_7 rfl rfl
def zrX_trees : Room := { frames := 5, cells := 0, slots := 0, locals := 112 }
set_option maxHeartbeats 4000000 in
theorem tX_trees {l : Launch} {g : ZG} {X : ZB} {N : ZB} {T : ZB} {Rd : ZB} {Fr : ZB} {Ac : ZA} {Ch : ZB} {PS : ZB} {Ly : ZB} {Pa : ZQ} {OT : ZB} {Ea : ZB} {Ga : ZB} {Im0 : ZO} {Im1 : ZO}  {r : Int × ZB} (h : fX_trees N PS = some r) : zMi l yX11_trees cX11_trees 1 (some .int) zrX_trees g [.ref (g.2.2 0)] (wX g X N T Rd Fr Ac Ch PS Ly Pa OT Ea Ga Im0 Im1) (wX g X N T Rd Fr Ac Ch r.2 Ly Pa OT Ea Ga Im0 Im1) (zI r.1) := by
  unfold fX_trees at h
  refine zMi_q (own := RX11) rfl (by decide +kernel) (Nat.le_of_ble_eq_true rfl) (lv := [(0, .ref (g.2.2 0))]) rfl ⟨rfl, rfl⟩ ?_
  intro p e s m args below meth c A Q hQ cx
  refine z_aload_n cx d_X11_trees_0 1 rfl rfl 0 rfl ?_
  refine z_get cx d_X11_trees_1 4 rfl e_X rfl zX11 0 (by decide) q_537 rfl rfl ?_
  refine z_get cx d_X11_trees_4 7 rfl e_N rfl zX5 4 (by decide) q_178 rfl rfl ?_
  refine y_iconst cx d_X11_trees_7 8 rfl ?_
  refine kf2_f (P := fun (w0_1 : Int) (PS_2 : ZB) => V p l e zrX_trees s m args below meth c A s.heap g 1 Q (wX g X N T Rd Fr Ac Ch PS_2 Ly Pa OT Ea Ga Im0 Im1) 0 0 [] 22 [.int (zI w0_1)]) h (fun w0_1 PS_2 h => ?_) (fun k_3 hk_3 h => ?_)
  · subst hQ
    obtain rfl := Option.some.inj h
    exact z_iret cx d_X11_trees_22 rfl rfl
  refine y_icmp_ge cx d_X11_trees_8 11 rfl 15 (by decide) rfl (nm_eq (x := 2) (by decide) (by decide)) h (fun h => ?_) (fun h => ?_)
  · refine z_aload_n cx d_X11_trees_15 16 rfl rfl 0 rfl ?_
    refine z_get cx d_X11_trees_16 19 rfl e_X rfl zX11 5 (by decide) q_542 rfl rfl ?_
    refine y_callV_i (As := []) (rest := []) (W := fun u_4 => wX g X N T Rd Fr Ac Ch u_4.2 Ly Pa OT Ea Ga Im0 Im1) (rf := fun u_4 => zI u_4.1) (rm := zrPS_mostTrees) cx (fun _ hq => tPS_mostTrees hq) d_X11_trees_19 22 rfl kk_X8_mostTrees q_1026 q_1027 q_1028 rfl e_PS rfl ⟨rfl, rfl⟩ ⟨Nat.le_of_ble_eq_true rfl, Nat.le_of_ble_eq_true rfl⟩ rfl rfl (Nat.le_of_ble_eq_true rfl) ⟨Nat.zero_le _, Nat.zero_le _⟩ h (fun u_4 h => ?_)
    refine z_sub [] rfl ?_
    exact hk_3 _ _ h
  · refine y_iconst cx d_X11_trees_11 12 rfl ?_
    refine z_goto cx d_X11_trees_12 22 (by decide) ?_
    refine z_sub [] rfl ?_
    exact hk_3 _ _ h
set_option maxHeartbeats 4000000 in
theorem tX_leastTerms {l : Launch} {g : ZG} {w : va_W} {a1 : Int} {a2 : Int} {a3 : Int} {r : Int} (h : fX_leastTerms a1 a2 a3 = some r) : zMi l yX11_leastTerms cX11_leastTerms 7 (some .int) zr0 g [.int (zI a1), .int (zI a2), .int (zI a3)] (w) (w) (zI r) := by
  unfold fX_leastTerms at h
  refine zMi_q (own := RX11) rfl (by decide +kernel) (Nat.le_of_ble_eq_true rfl) (lv := [(0, .int (zI a1)), (1, .int (zI a2)), (2, .int (zI a3))]) rfl ⟨rfl, rfl⟩ ?_
  intro p e s m args below meth c A Q hQ cx
  refine z_iload_n cx d_X11_leastTerms_0 1 rfl rfl 1 rfl ?_
  refine y_istore_n cx d_X11_leastTerms_1 2 rfl rfl (by decide) (lv' := [(3, .int (zI a2)), (0, .int (zI a1)), (1, .int (zI a2)), (2, .int (zI a3))]) rfl ?_
  refine z_iload_n cx d_X11_leastTerms_2 3 rfl rfl 1 rfl ?_
  refine y_istore cx d_X11_leastTerms_3 5 rfl (by decide) (lv' := [(4, .int (zI a1)), (3, .int (zI a2)), (0, .int (zI a1)), (1, .int (zI a2)), (2, .int (zI a3))]) rfl ?_
  refine y_iconst cx d_X11_leastTerms_5 6 rfl ?_
  refine y_istore cx d_X11_leastTerms_6 8 rfl (by decide) (lv' := [(5, .int (zI 0)), (4, .int (zI a1)), (3, .int (zI a2)), (0, .int (zI a1)), (1, .int (zI a2)), (2, .int (zI a3))]) rfl ?_
  refine z_sub [3, 4, 5, 2, 1, 0] rfl ?_
  refine lop3_f (P := fun (v3_1 : Int) (v4_2 : Int) (v5_3 : Int) => V p l e zr0 s m args below meth c A s.heap g 7 Q (w) 0 0 [(0, .int (zI a1)), (1, .int (zI a2)), (2, .int (zI a3)), (3, .int (zI v3_1)), (4, .int (zI v4_2)), (5, .int (zI v5_3))] 8 []) (fun rec_4 hrec_4 v3_1 v4_2 v5_3 h => ?_) _ _ _ _ h
  refine z_iload cx d_X11_leastTerms_8 10 rfl 5 rfl ?_
  refine y_bipush cx d_X11_leastTerms_10 12 rfl (by decide) ?_
  refine kf0_f (P := V p l e zr0 s m args below meth c A s.heap g 7 Q (w) 0 0 [(0, .int (zI a1)), (1, .int (zI a2)), (2, .int (zI a3)), (3, .int (zI v3_1))] 39 []) h (fun h => ?_) (fun k_5 hk_5 h => ?_)
  · refine z_iload_n cx d_X11_leastTerms_39 40 rfl rfl 2 rfl ?_
    refine kf1_f (P := fun (w0_6 : Int) => V p l e zr0 s m args below meth c A s.heap g 7 Q (w) 0 0 [(3, .int (zI v3_1))] 48 [.int (zI w0_6)]) h (fun w0_6 h => ?_) (fun k_7 hk_7 h => ?_)
    · refine y_istore cx d_X11_leastTerms_48 50 rfl (by decide) (lv' := [(5, .int (zI w0_6)), (3, .int (zI v3_1))]) rfl ?_
      refine z_iload_n cx d_X11_leastTerms_50 51 rfl rfl 1 rfl ?_
      refine kf1_f (P := fun (w0_8 : Int) => V p l e zr0 s m args below meth c A s.heap g 7 Q (w) 0 0 [] 63 [.int (zI w0_8)]) h (fun w0_8 h => ?_) (fun k_9 hk_9 h => ?_)
      · subst hQ
        obtain rfl := Option.some.inj h
        exact z_iret cx d_X11_leastTerms_63 rfl rfl
      refine y_if_ne cx d_X11_leastTerms_51 54 rfl 59 (by decide) rfl h (fun h => ?_) (fun h => ?_)
      · refine z_iload cx d_X11_leastTerms_59 61 rfl 0 rfl ?_
        refine z_iload_n cx d_X11_leastTerms_61 62 rfl rfl 1 rfl ?_
        refine y_idiv cx d_X11_leastTerms_62 63 rfl h (fun h => ?_)
        refine z_sub [] rfl ?_
        exact hk_9 _ h
      · refine z_iload cx d_X11_leastTerms_54 56 rfl 0 rfl ?_
        refine z_goto cx d_X11_leastTerms_56 63 (by decide) ?_
        refine z_sub [] rfl ?_
        exact hk_9 _ h
    refine y_if_ne cx d_X11_leastTerms_40 43 rfl 47 (by decide) rfl h (fun h => ?_) (fun h => ?_)
    · refine z_iload_n cx d_X11_leastTerms_47 48 rfl rfl 1 rfl ?_
      refine z_sub [3] rfl ?_
      exact hk_7 _ h
    · refine z_iload_n cx d_X11_leastTerms_43 44 rfl rfl 0 rfl ?_
      refine z_goto cx d_X11_leastTerms_44 48 (by decide) ?_
      refine z_sub [3] rfl ?_
      exact hk_7 _ h
  refine y_icmp_ge cx d_X11_leastTerms_12 15 rfl 39 (by decide) rfl (nm_eq (x := 64) (by decide) (by decide)) h (fun h => ?_) (fun h => ?_)
  · refine z_sub [0, 1, 2, 3] rfl ?_
    exact hk_5  h
  · refine z_iload cx d_X11_leastTerms_15 17 rfl 4 rfl ?_
    refine y_if_eq cx d_X11_leastTerms_17 20 rfl 39 (by decide) rfl h (fun h => ?_) (fun h => ?_)
    · refine z_sub [0, 1, 2, 3] rfl ?_
      exact hk_5  h
    · refine z_iload_n cx d_X11_leastTerms_20 21 rfl rfl 3 rfl ?_
      refine z_iload cx d_X11_leastTerms_21 23 rfl 4 rfl ?_
      refine y_irem cx d_X11_leastTerms_23 24 rfl h (fun h => ?_)
      refine y_istore_b cx d_X11_leastTerms_24 26 rfl (by decide) (fun y => [(6, .int (zI y)), (0, .int (zI a1)), (1, .int (zI a2)), (2, .int (zI a3)), (3, .int (zI v3_1)), (4, .int (zI v4_2)), (5, .int (zI v5_3))]) (fun y => rfl) h (fun v6_10 h => ?_)
      refine z_iload cx d_X11_leastTerms_26 28 rfl 5 rfl ?_
      refine y_istore_n cx d_X11_leastTerms_28 29 rfl rfl (by decide) (lv' := [(3, .int (zI v4_2)), (6, .int (zI v6_10)), (0, .int (zI a1)), (1, .int (zI a2)), (2, .int (zI a3)), (4, .int (zI v4_2)), (5, .int (zI v5_3))]) rfl ?_
      refine z_iload cx d_X11_leastTerms_29 31 rfl 1 rfl ?_
      refine y_istore cx d_X11_leastTerms_31 33 rfl (by decide) (lv' := [(4, .int (zI v6_10)), (3, .int (zI v4_2)), (6, .int (zI v6_10)), (0, .int (zI a1)), (1, .int (zI a2)), (2, .int (zI a3)), (5, .int (zI v5_3))]) rfl ?_
      refine y_iinc cx 6 d_X11_leastTerms_33 36 rfl rfl (by decide) (lv' := [(5, .int (zI (v5_3 + 1))), (4, .int (zI v6_10)), (3, .int (zI v4_2)), (6, .int (zI v6_10)), (0, .int (zI a1)), (1, .int (zI a2)), (2, .int (zI a3))]) rfl ?_
      refine z_goto cx d_X11_leastTerms_36 8 (by decide) ?_
      refine z_sub [4, 5, 6, 2, 1, 0] rfl ?_
      exact hrec_4 _ _ _ h
def zrX_thick : Room := { frames := 4, cells := 0, slots := 0, locals := 91 }
set_option maxHeartbeats 4000000 in
theorem tX_thick {l : Launch} {g : ZG} {X : ZB} {N : ZB} {T : ZB} {Rd : ZB} {Fr : ZB} {Ac : ZA} {Ch : ZB} {PS : ZB} {Ly : ZB} {Pa : ZQ} {OT : ZB} {Ea : ZB} {Ga : ZB} {Im0 : ZO} {Im1 : ZO} {a1 : Int} {r : Int × ZB} (h : fX_thick N PS a1 = some r) : zMi l yX11_thick cX11_thick 2 (some .int) zrX_thick g [.ref (g.2.2 0), .int (zI a1)] (wX g X N T Rd Fr Ac Ch PS Ly Pa OT Ea Ga Im0 Im1) (wX g X N T Rd Fr Ac Ch r.2 Ly Pa OT Ea Ga Im0 Im1) (zI r.1) := by
  unfold fX_thick at h
  refine zMi_q (own := RX11) rfl (by decide +kernel) (Nat.le_of_ble_eq_true rfl) (lv := [(0, .ref (g.2.2 0)), (1, .int (zI a1))]) rfl ⟨rfl, rfl⟩ ?_
  intro p e s m args below meth c A Q hQ cx
  refine z_aload_n cx d_X11_thick_0 1 rfl rfl 0 rfl ?_
  refine z_get cx d_X11_thick_1 4 rfl e_X rfl zX11 0 (by decide) q_537 rfl rfl ?_
  refine z_get cx d_X11_thick_4 7 rfl e_N rfl zX5 4 (by decide) q_178 rfl rfl ?_
  refine y_iconst cx d_X11_thick_7 8 rfl ?_
  refine kf0_f (P := V p l e zrX_thick s m args below meth c A s.heap g 2 Q (wX g X N T Rd Fr Ac Ch PS Ly Pa OT Ea Ga Im0 Im1) 0 0 [] 20 []) h (fun h => ?_) (fun k_1 hk_1 h => ?_)
  · refine y_iconst cx d_X11_thick_20 21 rfl ?_
    subst hQ
    obtain rfl := Option.some.inj h
    exact z_iret cx d_X11_thick_21 rfl rfl
  refine y_icmp_lt cx d_X11_thick_8 11 rfl 20 (by decide) rfl (nm_eq (x := 2) (by decide) (by decide)) h (fun h => ?_) (fun h => ?_)
  · refine z_sub [] rfl ?_
    exact hk_1  h
  · refine z_iload_n cx d_X11_thick_11 12 rfl rfl 1 rfl ?_
    refine y_if_lt cx d_X11_thick_12 15 rfl 20 (by decide) rfl h (fun h => ?_) (fun h => ?_)
    · refine z_sub [] rfl ?_
      exact hk_1  h
    · refine z_iload_n cx d_X11_thick_15 16 rfl rfl 1 rfl ?_
      refine y_iconst cx d_X11_thick_16 17 rfl ?_
      refine y_icmp_le cx d_X11_thick_17 20 rfl 22 (by decide) rfl (nm_eq (x := 2) (by decide) (by decide)) h (fun h => ?_) (fun h => ?_)
      · refine z_aload_n cx d_X11_thick_22 23 rfl rfl 0 rfl ?_
        refine z_get cx d_X11_thick_23 26 rfl e_X rfl zX11 5 (by decide) q_542 rfl rfl ?_
        refine y_callV_v (As := []) (rest := []) (W := fun u_2 => wX g X N T Rd Fr Ac Ch u_2 Ly Pa OT Ea Ga Im0 Im1) (rm := zrPS_findThick0) cx (fun _ hq => tPS_findThick0 hq) d_X11_thick_26 29 rfl kk_X8_findThick q_1035 q_1036 q_1037 rfl e_PS rfl ⟨rfl, rfl⟩ ⟨Nat.le_of_ble_eq_true rfl, Nat.le_of_ble_eq_true rfl⟩ rfl rfl (Nat.le_of_ble_eq_true rfl) ⟨Nat.zero_le _, Nat.zero_le _⟩ h (fun u_2 h => ?_)
        refine z_iload_n cx d_X11_thick_29 30 rfl rfl 1 rfl ?_
        refine y_iconst cx d_X11_thick_30 31 rfl ?_
        refine y_icmp_ne cx d_X11_thick_31 34 rfl 42 (by decide) rfl (nm_eq (x := 2) (by decide) (by decide)) h (fun h => ?_) (fun h => ?_)
        · refine z_aload_n cx d_X11_thick_42 43 rfl rfl 0 rfl ?_
          refine z_get cx d_X11_thick_43 46 rfl e_X rfl zX11 5 (by decide) q_542 rfl rfl ?_
          refine y_callV_i (As := []) (rest := []) (W := fun u_3 => wX g X N T Rd Fr Ac Ch u_2 Ly Pa OT Ea Ga Im0 Im1) (rf := fun u_3 => zI u_3) (rm := zr0) cx (fun _ hq => tPS_bestAbove hq) d_X11_thick_46 49 rfl kk_X8_bestAbove q_1047 q_1048 q_1049 rfl e_PS rfl ⟨rfl, rfl⟩ ⟨Nat.le_of_ble_eq_true rfl, Nat.le_of_ble_eq_true rfl⟩ rfl rfl (Nat.le_of_ble_eq_true rfl) ⟨Nat.zero_le _, Nat.zero_le _⟩ h (fun u_3 h => ?_)
          refine z_aload_n cx d_X11_thick_49 50 rfl rfl 0 rfl ?_
          refine z_get cx d_X11_thick_50 53 rfl e_X rfl zX11 5 (by decide) q_542 rfl rfl ?_
          refine y_callV_i (As := []) (rest := [.int (zI u_3)]) (W := fun u_4 => wX g X N T Rd Fr Ac Ch u_2 Ly Pa OT Ea Ga Im0 Im1) (rf := fun u_4 => zI u_4) (rm := zr0) cx (fun _ hq => tPS_bestBelow hq) d_X11_thick_53 56 rfl kk_X8_bestBelow q_1051 q_1052 q_1053 rfl e_PS rfl ⟨rfl, rfl⟩ ⟨Nat.le_of_ble_eq_true rfl, Nat.le_of_ble_eq_true rfl⟩ rfl rfl (Nat.le_of_ble_eq_true rfl) ⟨Nat.zero_le _, Nat.zero_le _⟩ h (fun u_4 h => ?_)
          refine z_iload_n cx d_X11_thick_56 57 rfl rfl 1 rfl ?_
          refine y_callS_i (As := [.int (zI u_3), .int (zI u_4), .int (zI a1)]) (rest := []) (W := fun u_5 => wX g X N T Rd Fr Ac Ch u_2 Ly Pa OT Ea Ga Im0 Im1) (rf := fun u_5 => zI u_5) (rm := zr0) cx (fun _ hq => tX_leastTerms hq) d_X11_thick_57 60 rfl kk_X11_leastTerms q_1055 q_1056 ⟨rfl, rfl⟩ ⟨Nat.le_of_ble_eq_true rfl, Nat.le_of_ble_eq_true rfl⟩ rfl rfl (Nat.le_of_ble_eq_true rfl) ⟨Nat.zero_le _, Nat.zero_le _⟩ h (fun u_5 h => ?_)
          subst hQ
          obtain rfl := Option.some.inj h
          exact z_iret cx d_X11_thick_60 rfl rfl
        · refine z_aload_n cx d_X11_thick_34 35 rfl rfl 0 rfl ?_
          refine z_get cx d_X11_thick_35 38 rfl e_X rfl zX11 5 (by decide) q_542 rfl rfl ?_
          refine y_callV_i (As := []) (rest := []) (W := fun u_6 => wX g X N T Rd Fr Ac Ch u_2 Ly Pa OT Ea Ga Im0 Im1) (rf := fun u_6 => zI u_6) (rm := zr0) cx (fun _ hq => tPS_bestSet hq) d_X11_thick_38 41 rfl kk_X8_bestSet q_1043 q_1044 q_1045 rfl e_PS rfl ⟨rfl, rfl⟩ ⟨Nat.le_of_ble_eq_true rfl, Nat.le_of_ble_eq_true rfl⟩ rfl rfl (Nat.le_of_ble_eq_true rfl) ⟨Nat.zero_le _, Nat.zero_le _⟩ h (fun u_6 h => ?_)
          subst hQ
          obtain rfl := Option.some.inj h
          exact z_iret cx d_X11_thick_41 rfl rfl
      · refine z_sub [] rfl ?_
        exact hk_1  h
def zrX_crowded : Room := { frames := 4, cells := 0, slots := 0, locals := 93 }
set_option maxHeartbeats 4000000 in
theorem tX_crowded {l : Launch} {g : ZG} {X : ZB} {N : ZB} {T : ZB} {Rd : ZB} {Fr : ZB} {Ac : ZA} {Ch : ZB} {PS : ZB} {Ly : ZB} {Pa : ZQ} {OT : ZB} {Ea : ZB} {Ga : ZB} {Im0 : ZO} {Im1 : ZO} {a1 : Int} {r : Int × ZB} (h : fX_crowded N PS a1 = some r) : zMi l yX11_crowded cX11_crowded 2 (some .int) zrX_crowded g [.ref (g.2.2 0), .int (zI a1)] (wX g X N T Rd Fr Ac Ch PS Ly Pa OT Ea Ga Im0 Im1) (wX g X N T Rd Fr Ac Ch r.2 Ly Pa OT Ea Ga Im0 Im1) (zI r.1) := by
  unfold fX_crowded at h
  refine zMi_q (own := RX11) rfl (by decide +kernel) (Nat.le_of_ble_eq_true rfl) (lv := [(0, .ref (g.2.2 0)), (1, .int (zI a1))]) rfl ⟨rfl, rfl⟩ ?_
  intro p e s m args below meth c A Q hQ cx
  refine z_iload_n cx d_X11_crowded_0 1 rfl rfl 1 rfl ?_
  refine kf2_f (P := fun (w0_1 : Int) (PS_2 : ZB) => V p l e zrX_crowded s m args below meth c A s.heap g 2 Q (wX g X N T Rd Fr Ac Ch PS_2 Ly Pa OT Ea Ga Im0 Im1) 0 0 [] 22 [.int (zI w0_1)]) h (fun w0_1 PS_2 h => ?_) (fun k_3 hk_3 h => ?_)
  · subst hQ
    obtain rfl := Option.some.inj h
    exact z_iret cx d_X11_crowded_22 rfl rfl
  refine kf0_f (P := V p l e zrX_crowded s m args below meth c A s.heap g 2 Q (wX g X N T Rd Fr Ac Ch PS Ly Pa OT Ea Ga Im0 Im1) 0 0 [] 10 []) h (fun h => ?_) (fun k_4 hk_4 h => ?_)
  · refine y_iconst cx d_X11_crowded_10 11 rfl ?_
    refine z_goto cx d_X11_crowded_11 22 (by decide) ?_
    exact hk_3 _ _ h
  refine y_if_lt cx d_X11_crowded_1 4 rfl 10 (by decide) rfl h (fun h => ?_) (fun h => ?_)
  · refine z_sub [] rfl ?_
    exact hk_4  h
  · refine z_iload_n cx d_X11_crowded_4 5 rfl rfl 1 rfl ?_
    refine y_bipush cx d_X11_crowded_5 7 rfl (by decide) ?_
    refine y_icmp_le cx d_X11_crowded_7 10 rfl 14 (by decide) rfl (nm_eq (x := 24) (by decide) (by decide)) h (fun h => ?_) (fun h => ?_)
    · refine z_aload_n cx d_X11_crowded_14 15 rfl rfl 0 rfl ?_
      refine z_get cx d_X11_crowded_15 18 rfl e_X rfl zX11 5 (by decide) q_542 rfl rfl ?_
      refine z_iload_n cx d_X11_crowded_18 19 rfl rfl 1 rfl ?_
      refine y_callV_i (As := [.int (zI a1)]) (rest := []) (W := fun u_5 => wX g X N T Rd Fr Ac Ch u_5.2 Ly Pa OT Ea Ga Im0 Im1) (rf := fun u_5 => zI u_5.1) (rm := zrPS_findCrowded) cx (fun _ hq => tPS_findCrowded hq) d_X11_crowded_19 22 rfl kk_X8_findCrowded q_1062 q_1063 q_1064 rfl e_PS rfl ⟨rfl, rfl⟩ ⟨Nat.le_of_ble_eq_true rfl, Nat.le_of_ble_eq_true rfl⟩ rfl rfl (Nat.le_of_ble_eq_true rfl) ⟨Nat.zero_le _, Nat.zero_le _⟩ h (fun u_5 h => ?_)
      refine z_sub [] rfl ?_
      exact hk_3 _ _ h
    · refine z_sub [] rfl ?_
      exact hk_4  h
def zrX_strength : Room := { frames := 4, cells := 0, slots := 0, locals := 111 }
set_option maxHeartbeats 4000000 in
theorem tX_strength {l : Launch} {g : ZG} {X : ZB} {N : ZB} {T : ZB} {Rd : ZB} {Fr : ZB} {Ac : ZA} {Ch : ZB} {PS : ZB} {Ly : ZB} {Pa : ZQ} {OT : ZB} {Ea : ZB} {Ga : ZB} {Im0 : ZO} {Im1 : ZO} {a1 : Int} {r : Int × ZB × ZQ} (h : fX_strength N PS Pa a1 = some r) : zMi l yX11_strength cX11_strength 2 (some .int) zrX_strength g [.ref (g.2.2 0), .int (zI a1)] (wX g X N T Rd Fr Ac Ch PS Ly Pa OT Ea Ga Im0 Im1) (wX g X N T Rd Fr Ac Ch r.2.1 Ly r.2.2 OT Ea Ga Im0 Im1) (zI r.1) := by
  unfold fX_strength at h
  refine zMi_q (own := RX11) rfl (by decide +kernel) (Nat.le_of_ble_eq_true rfl) (lv := [(0, .ref (g.2.2 0)), (1, .int (zI a1))]) rfl ⟨rfl, rfl⟩ ?_
  intro p e s m args below meth c A Q hQ cx
  refine z_aload_n cx d_X11_strength_0 1 rfl rfl 0 rfl ?_
  refine z_get cx d_X11_strength_1 4 rfl e_X rfl zX11 0 (by decide) q_537 rfl rfl ?_
  refine z_get cx d_X11_strength_4 7 rfl e_N rfl zX5 4 (by decide) q_178 rfl rfl ?_
  refine y_iconst cx d_X11_strength_7 8 rfl ?_
  refine kf0_f (P := V p l e zrX_strength s m args below meth c A s.heap g 2 Q (wX g X N T Rd Fr Ac Ch PS Ly Pa OT Ea Ga Im0 Im1) 0 0 [] 20 []) h (fun h => ?_) (fun k_1 hk_1 h => ?_)
  · refine y_iconst cx d_X11_strength_20 21 rfl ?_
    subst hQ
    obtain rfl := Option.some.inj h
    exact z_iret cx d_X11_strength_21 rfl rfl
  refine y_icmp_lt cx d_X11_strength_8 11 rfl 20 (by decide) rfl (nm_eq (x := 2) (by decide) (by decide)) h (fun h => ?_) (fun h => ?_)
  · refine z_sub [] rfl ?_
    exact hk_1  h
  · refine z_iload_n cx d_X11_strength_11 12 rfl rfl 1 rfl ?_
    refine y_if_lt cx d_X11_strength_12 15 rfl 20 (by decide) rfl h (fun h => ?_) (fun h => ?_)
    · refine z_sub [] rfl ?_
      exact hk_1  h
    · refine z_iload_n cx d_X11_strength_15 16 rfl rfl 1 rfl ?_
      refine y_iconst cx d_X11_strength_16 17 rfl ?_
      refine y_icmp_le cx d_X11_strength_17 20 rfl 22 (by decide) rfl (nm_eq (x := 2) (by decide) (by decide)) h (fun h => ?_) (fun h => ?_)
      · refine z_aload_n cx d_X11_strength_22 23 rfl rfl 0 rfl ?_
        refine z_get cx d_X11_strength_23 26 rfl e_X rfl zX11 7 (by decide) q_544 rfl rfl ?_
        refine y_callV_v (As := []) (rest := []) (W := fun u_2 => wX g X N T Rd Fr Ac Ch u_2.1 Ly u_2.2 OT Ea Ga Im0 Im1) (rm := zrPa_findWeakest) cx (fun _ hq => tPa_findWeakest hq) d_X11_strength_26 29 rfl kk_X7_findWeakest q_1070 q_1071 q_1072 rfl e_Pa rfl ⟨rfl, rfl⟩ ⟨Nat.le_of_ble_eq_true rfl, Nat.le_of_ble_eq_true rfl⟩ rfl rfl (Nat.le_of_ble_eq_true rfl) ⟨Nat.zero_le _, Nat.zero_le _⟩ h (fun u_2 h => ?_)
        refine z_iload_n cx d_X11_strength_29 30 rfl rfl 1 rfl ?_
        refine y_iconst cx d_X11_strength_30 31 rfl ?_
        refine y_icmp_ne cx d_X11_strength_31 34 rfl 42 (by decide) rfl (nm_eq (x := 2) (by decide) (by decide)) h (fun h => ?_) (fun h => ?_)
        · refine z_aload_n cx d_X11_strength_42 43 rfl rfl 0 rfl ?_
          refine z_get cx d_X11_strength_43 46 rfl e_X rfl zX11 7 (by decide) q_544 rfl rfl ?_
          refine y_callV_i (As := []) (rest := []) (W := fun u_3 => wX g X N T Rd Fr Ac Ch u_2.1 Ly u_2.2 OT Ea Ga Im0 Im1) (rf := fun u_3 => zI u_3) (rm := zr0) cx (fun _ hq => tPa_above hq) d_X11_strength_46 49 rfl kk_X7_above q_1093 q_1094 q_1095 rfl e_Pa rfl ⟨rfl, rfl⟩ ⟨Nat.le_of_ble_eq_true rfl, Nat.le_of_ble_eq_true rfl⟩ rfl rfl (Nat.le_of_ble_eq_true rfl) ⟨Nat.zero_le _, Nat.zero_le _⟩ h (fun u_3 h => ?_)
          refine z_aload_n cx d_X11_strength_49 50 rfl rfl 0 rfl ?_
          refine z_get cx d_X11_strength_50 53 rfl e_X rfl zX11 7 (by decide) q_544 rfl rfl ?_
          refine y_callV_i (As := []) (rest := [.int (zI u_3)]) (W := fun u_4 => wX g X N T Rd Fr Ac Ch u_2.1 Ly u_2.2 OT Ea Ga Im0 Im1) (rf := fun u_4 => zI u_4) (rm := zr0) cx (fun _ hq => tPa_pieces hq) d_X11_strength_53 56 rfl kk_X7_pieces q_1089 q_1090 q_1091 rfl e_Pa rfl ⟨rfl, rfl⟩ ⟨Nat.le_of_ble_eq_true rfl, Nat.le_of_ble_eq_true rfl⟩ rfl rfl (Nat.le_of_ble_eq_true rfl) ⟨Nat.zero_le _, Nat.zero_le _⟩ h (fun u_4 h => ?_)
          refine y_iconst cx d_X11_strength_56 57 rfl ?_
          refine y_isub cx d_X11_strength_57 58 rfl ?_
          refine z_iload_n cx d_X11_strength_58 59 rfl rfl 1 rfl ?_
          refine y_callS_i (As := [.int (zI u_3), .int (zI (u_4 - 1)), .int (zI a1)]) (rest := []) (W := fun u_5 => wX g X N T Rd Fr Ac Ch u_2.1 Ly u_2.2 OT Ea Ga Im0 Im1) (rf := fun u_5 => zI u_5) (rm := zr0) cx (fun _ hq => tX_leastTerms hq) d_X11_strength_59 62 rfl kk_X11_leastTerms q_1055 q_1056 ⟨rfl, rfl⟩ ⟨Nat.le_of_ble_eq_true rfl, Nat.le_of_ble_eq_true rfl⟩ rfl rfl (Nat.le_of_ble_eq_true rfl) ⟨Nat.zero_le _, Nat.zero_le _⟩ h (fun u_5 h => ?_)
          subst hQ
          obtain rfl := Option.some.inj h
          exact z_iret cx d_X11_strength_62 rfl rfl
        · refine z_aload_n cx d_X11_strength_34 35 rfl rfl 0 rfl ?_
          refine z_get cx d_X11_strength_35 38 rfl e_X rfl zX11 7 (by decide) q_544 rfl rfl ?_
          refine y_callV_i (As := []) (rest := []) (W := fun u_6 => wX g X N T Rd Fr Ac Ch u_2.1 Ly u_2.2 OT Ea Ga Im0 Im1) (rf := fun u_6 => zI u_6) (rm := zr0) cx (fun _ hq => tPa_pieces hq) d_X11_strength_38 41 rfl kk_X7_pieces q_1089 q_1090 q_1091 rfl e_Pa rfl ⟨rfl, rfl⟩ ⟨Nat.le_of_ble_eq_true rfl, Nat.le_of_ble_eq_true rfl⟩ rfl rfl (Nat.le_of_ble_eq_true rfl) ⟨Nat.zero_le _, Nat.zero_le _⟩ h (fun u_6 h => ?_)
          subst hQ
          obtain rfl := Option.some.inj h
          exact z_iret cx d_X11_strength_41 rfl rfl
      · refine z_sub [] rfl ?_
        exact hk_1  h
def zrX_even : Room := { frames := 5, cells := 0, slots := 0, locals := 110 }
set_option maxHeartbeats 4000000 in
theorem tX_even {l : Launch} {g : ZG} {X : ZB} {N : ZB} {T : ZB} {Rd : ZB} {Fr : ZB} {Ac : ZA} {Ch : ZB} {PS : ZB} {Ly : ZB} {Pa : ZQ} {OT : ZB} {Ea : ZB} {Ga : ZB} {Im0 : ZO} {Im1 : ZO}  {r : Int × ZB} (h : fX_even N PS = some r) : zMi l yX11_even cX11_even 1 (some .int) zrX_even g [.ref (g.2.2 0)] (wX g X N T Rd Fr Ac Ch PS Ly Pa OT Ea Ga Im0 Im1) (wX g X N T Rd Fr Ac Ch r.2 Ly Pa OT Ea Ga Im0 Im1) (zI r.1) := by
  unfold fX_even at h
  refine zMi_q (own := RX11) rfl (by decide +kernel) (Nat.le_of_ble_eq_true rfl) (lv := [(0, .ref (g.2.2 0))]) rfl ⟨rfl, rfl⟩ ?_
  intro p e s m args below meth c A Q hQ cx
  refine z_aload_n cx d_X11_even_0 1 rfl rfl 0 rfl ?_
  refine z_get cx d_X11_even_1 4 rfl e_X rfl zX11 5 (by decide) q_542 rfl rfl ?_
  refine y_callV_i (As := []) (rest := []) (W := fun u_1 => wX g X N T Rd Fr Ac Ch u_1.2 Ly Pa OT Ea Ga Im0 Im1) (rf := fun u_1 => zI u_1.1) (rm := zrPS_leastLoad) cx (fun _ hq => tPS_leastLoad hq) d_X11_even_4 7 rfl kk_X8_leastLoad q_1101 q_1102 q_1103 rfl e_PS rfl ⟨rfl, rfl⟩ ⟨Nat.le_of_ble_eq_true rfl, Nat.le_of_ble_eq_true rfl⟩ rfl rfl (Nat.le_of_ble_eq_true rfl) ⟨Nat.zero_le _, Nat.zero_le _⟩ h (fun u_1 h => ?_)
  subst hQ
  obtain rfl := Option.some.inj h
  exact z_iret cx d_X11_even_7 rfl rfl
def zrX_rooted : Room := { frames := 4, cells := 0, slots := 0, locals := 89 }
set_option maxHeartbeats 4000000 in
theorem tX_rooted {l : Launch} {g : ZG} {X : ZB} {N : ZB} {T : ZB} {Rd : ZB} {Fr : ZB} {Ac : ZA} {Ch : ZB} {PS : ZB} {Ly : ZB} {Pa : ZQ} {OT : ZB} {Ea : ZB} {Ga : ZB} {Im0 : ZO} {Im1 : ZO} {a1 : Int} {r : Int × ZB} (h : fX_rooted N OT a1 = some r) : zMi l yX11_rooted cX11_rooted 2 (some .int) zrX_rooted g [.ref (g.2.2 0), .int (zI a1)] (wX g X N T Rd Fr Ac Ch PS Ly Pa OT Ea Ga Im0 Im1) (wX g X N T Rd Fr Ac Ch PS Ly Pa r.2 Ea Ga Im0 Im1) (zI r.1) := by
  unfold fX_rooted at h
  refine zMi_q (own := RX11) rfl (by decide +kernel) (Nat.le_of_ble_eq_true rfl) (lv := [(0, .ref (g.2.2 0)), (1, .int (zI a1))]) rfl ⟨rfl, rfl⟩ ?_
  intro p e s m args below meth c A Q hQ cx
  refine z_aload_n cx d_X11_rooted_0 1 rfl rfl 0 rfl ?_
  refine z_get cx d_X11_rooted_1 4 rfl e_X rfl zX11 0 (by decide) q_537 rfl rfl ?_
  refine z_get cx d_X11_rooted_4 7 rfl e_N rfl zX5 4 (by decide) q_178 rfl rfl ?_
  refine y_iconst cx d_X11_rooted_7 8 rfl ?_
  refine kf0_f (P := V p l e zrX_rooted s m args below meth c A s.heap g 2 Q (wX g X N T Rd Fr Ac Ch PS Ly Pa OT Ea Ga Im0 Im1) 0 0 [] 26 []) h (fun h => ?_) (fun k_1 hk_1 h => ?_)
  · refine y_iconst cx d_X11_rooted_26 27 rfl ?_
    subst hQ
    obtain rfl := Option.some.inj h
    exact z_iret cx d_X11_rooted_27 rfl rfl
  refine y_icmp_lt cx d_X11_rooted_8 11 rfl 26 (by decide) rfl (nm_eq (x := 2) (by decide) (by decide)) h (fun h => ?_) (fun h => ?_)
  · refine z_sub [] rfl ?_
    exact hk_1  h
  · refine z_iload_n cx d_X11_rooted_11 12 rfl rfl 1 rfl ?_
    refine y_if_lt cx d_X11_rooted_12 15 rfl 26 (by decide) rfl h (fun h => ?_) (fun h => ?_)
    · refine z_sub [] rfl ?_
      exact hk_1  h
    · refine z_iload_n cx d_X11_rooted_15 16 rfl rfl 1 rfl ?_
      refine z_aload_n cx d_X11_rooted_16 17 rfl rfl 0 rfl ?_
      refine z_get cx d_X11_rooted_17 20 rfl e_X rfl zX11 0 (by decide) q_537 rfl rfl ?_
      refine z_get cx d_X11_rooted_20 23 rfl e_N rfl zX5 4 (by decide) q_178 rfl rfl ?_
      refine y_icmp_lt cx d_X11_rooted_23 26 rfl 28 (by decide) rfl rfl h (fun h => ?_) (fun h => ?_)
      · refine z_aload_n cx d_X11_rooted_28 29 rfl rfl 0 rfl ?_
        refine z_get cx d_X11_rooted_29 32 rfl e_X rfl zX11 8 (by decide) q_545 rfl rfl ?_
        refine z_iload_n cx d_X11_rooted_32 33 rfl rfl 1 rfl ?_
        refine y_callV_i (As := [.int (zI a1)]) (rest := []) (W := fun u_2 => wX g X N T Rd Fr Ac Ch PS Ly Pa u_2.2 Ea Ga Im0 Im1) (rf := fun u_2 => zI u_2.1) (rm := zrOT_countFrom) cx (fun _ hq => tOT_countFrom hq) d_X11_rooted_33 36 rfl kk_X6_countFrom q_1109 q_1110 q_1111 rfl e_OT rfl ⟨rfl, rfl⟩ ⟨Nat.le_of_ble_eq_true rfl, Nat.le_of_ble_eq_true rfl⟩ rfl rfl (Nat.le_of_ble_eq_true rfl) ⟨Nat.zero_le _, Nat.zero_le _⟩ h (fun u_2 h => ?_)
        subst hQ
        obtain rfl := Option.some.inj h
        exact z_iret cx d_X11_rooted_36 rfl rfl
      · refine z_sub [] rfl ?_
        exact hk_1  h
def zrX_outTree : Room := { frames := 6, cells := 0, slots := 0, locals := 146 }
set_option maxHeartbeats 4000000 in
theorem tX_outTree {l : Launch} {g : ZG} {X : ZB} {N : ZB} {T : ZB} {Rd : ZB} {Fr : ZB} {Ac : ZA} {Ch : ZB} {PS : ZB} {Ly : ZB} {Pa : ZQ} {OT : ZB} {Ea : ZB} {Ga : ZB} {Im0 : ZO} {Im1 : ZO} {a1 : Int} {a2 : Int} {r : Int × ZB} (h : fX_outTree N OT a1 a2 = some r) : zMi l yX11_outTree cX11_outTree 3 (some .int) zrX_outTree g [.ref (g.2.2 0), .int (zI a1), .int (zI a2)] (wX g X N T Rd Fr Ac Ch PS Ly Pa OT Ea Ga Im0 Im1) (wX g X N T Rd Fr Ac Ch PS Ly Pa r.2 Ea Ga Im0 Im1) (zI r.1) := by
  unfold fX_outTree at h
  refine zMi_q (own := RX11) rfl (by decide +kernel) (Nat.le_of_ble_eq_true rfl) (lv := [(0, .ref (g.2.2 0)), (1, .int (zI a1)), (2, .int (zI a2))]) rfl ⟨rfl, rfl⟩ ?_
  intro p e s m args below meth c A Q hQ cx
  refine z_aload_n cx d_X11_outTree_0 1 rfl rfl 0 rfl ?_
  refine z_get cx d_X11_outTree_1 4 rfl e_X rfl zX11 0 (by decide) q_537 rfl rfl ?_
  refine z_get cx d_X11_outTree_4 7 rfl e_N rfl zX5 4 (by decide) q_178 rfl rfl ?_
  refine y_iconst cx d_X11_outTree_7 8 rfl ?_
  refine kf0_f (P := V p l e zrX_outTree s m args below meth c A s.heap g 3 Q (wX g X N T Rd Fr Ac Ch PS Ly Pa OT Ea Ga Im0 Im1) 0 0 [] 26 []) h (fun h => ?_) (fun k_1 hk_1 h => ?_)
  · refine y_iconst cx d_X11_outTree_26 27 rfl ?_
    subst hQ
    obtain rfl := Option.some.inj h
    exact z_iret cx d_X11_outTree_27 rfl rfl
  refine y_icmp_lt cx d_X11_outTree_8 11 rfl 26 (by decide) rfl (nm_eq (x := 2) (by decide) (by decide)) h (fun h => ?_) (fun h => ?_)
  · refine z_sub [] rfl ?_
    exact hk_1  h
  · refine z_iload_n cx d_X11_outTree_11 12 rfl rfl 1 rfl ?_
    refine y_if_lt cx d_X11_outTree_12 15 rfl 26 (by decide) rfl h (fun h => ?_) (fun h => ?_)
    · refine z_sub [] rfl ?_
      exact hk_1  h
    · refine z_iload_n cx d_X11_outTree_15 16 rfl rfl 1 rfl ?_
      refine z_aload_n cx d_X11_outTree_16 17 rfl rfl 0 rfl ?_
      refine z_get cx d_X11_outTree_17 20 rfl e_X rfl zX11 0 (by decide) q_537 rfl rfl ?_
      refine z_get cx d_X11_outTree_20 23 rfl e_N rfl zX5 4 (by decide) q_178 rfl rfl ?_
      refine y_icmp_lt cx d_X11_outTree_23 26 rfl 28 (by decide) rfl rfl h (fun h => ?_) (fun h => ?_)
      · refine z_aload_n cx d_X11_outTree_28 29 rfl rfl 0 rfl ?_
        refine z_get cx d_X11_outTree_29 32 rfl e_X rfl zX11 8 (by decide) q_545 rfl rfl ?_
        refine z_iload_n cx d_X11_outTree_32 33 rfl rfl 1 rfl ?_
        refine z_iload_n cx d_X11_outTree_33 34 rfl rfl 2 rfl ?_
        refine y_callV_i (As := [.int (zI a1), .int (zI a2)]) (rest := []) (W := fun u_2 => wX g X N T Rd Fr Ac Ch PS Ly Pa u_2.2 Ea Ga Im0 Im1) (rf := fun u_2 => zI u_2.1) (rm := zrOT_treeSet) cx (fun _ hq => tOT_treeSet hq) d_X11_outTree_34 37 rfl kk_X6_treeSet q_1130 q_1131 q_1132 rfl e_OT rfl ⟨rfl, rfl⟩ ⟨Nat.le_of_ble_eq_true rfl, Nat.le_of_ble_eq_true rfl⟩ rfl rfl (Nat.le_of_ble_eq_true rfl) ⟨Nat.zero_le _, Nat.zero_le _⟩ h (fun u_2 h => ?_)
        subst hQ
        obtain rfl := Option.some.inj h
        exact z_iret cx d_X11_outTree_37 rfl rfl
      · refine z_sub [] rfl ?_
        exact hk_1  h
def zrX_vital : Room := { frames := 5, cells := 0, slots := 0, locals := 115 }
set_option maxHeartbeats 4000000 in
theorem tX_vital {l : Launch} {g : ZG} {X : ZB} {N : ZB} {T : ZB} {Rd : ZB} {Fr : ZB} {Ac : ZA} {Ch : ZB} {PS : ZB} {Ly : ZB} {Pa : ZQ} {OT : ZB} {Ea : ZB} {Ga : ZB} {Im0 : ZO} {Im1 : ZO}  {r : Int × ZB} (h : fX_vital N PS = some r) : zMi l yX11_vital cX11_vital 1 (some .int) zrX_vital g [.ref (g.2.2 0)] (wX g X N T Rd Fr Ac Ch PS Ly Pa OT Ea Ga Im0 Im1) (wX g X N T Rd Fr Ac Ch r.2 Ly Pa OT Ea Ga Im0 Im1) (zI r.1) := by
  unfold fX_vital at h
  refine zMi_q (own := RX11) rfl (by decide +kernel) (Nat.le_of_ble_eq_true rfl) (lv := [(0, .ref (g.2.2 0))]) rfl ⟨rfl, rfl⟩ ?_
  intro p e s m args below meth c A Q hQ cx
  refine z_aload_n cx d_X11_vital_0 1 rfl rfl 0 rfl ?_
  refine z_get cx d_X11_vital_1 4 rfl e_X rfl zX11 5 (by decide) q_542 rfl rfl ?_
  refine z_aload_n cx d_X11_vital_4 5 rfl rfl 0 rfl ?_
  refine z_get cx d_X11_vital_5 8 rfl e_X rfl zX11 0 (by decide) q_537 rfl rfl ?_
  refine z_get cx d_X11_vital_8 11 rfl e_N rfl zX5 6 (by decide) q_191 rfl rfl ?_
  refine y_callV_i (As := [.int (zI (N.1 6))]) (rest := []) (W := fun u_1 => wX g X N T Rd Fr Ac Ch u_1.2 Ly Pa OT Ea Ga Im0 Im1) (rf := fun u_1 => zI u_1.1) (rm := zrPS_vitalSet) cx (fun _ hq => tPS_vitalSet hq) d_X11_vital_11 14 rfl kk_X8_vitalSet q_1152 q_1153 q_1154 rfl e_PS rfl ⟨rfl, rfl⟩ ⟨Nat.le_of_ble_eq_true rfl, Nat.le_of_ble_eq_true rfl⟩ rfl rfl (Nat.le_of_ble_eq_true rfl) ⟨Nat.zero_le _, Nat.zero_le _⟩ h (fun u_1 h => ?_)
  subst hQ
  obtain rfl := Option.some.inj h
  exact z_iret cx d_X11_vital_14 rfl rfl
def zrX_layers : Room := { frames := 4, cells := 0, slots := 0, locals := 94 }
set_option maxHeartbeats 4000000 in
theorem tX_layers {l : Launch} {g : ZG} {X : ZB} {N : ZB} {T : ZB} {Rd : ZB} {Fr : ZB} {Ac : ZA} {Ch : ZB} {PS : ZB} {Ly : ZB} {Pa : ZQ} {OT : ZB} {Ea : ZB} {Ga : ZB} {Im0 : ZO} {Im1 : ZO}  {r : Int × ZB × ZB} (h : fX_layers N PS Ly = some r) : zMi l yX11_layers cX11_layers 1 (some .int) zrX_layers g [.ref (g.2.2 0)] (wX g X N T Rd Fr Ac Ch PS Ly Pa OT Ea Ga Im0 Im1) (wX g X N T Rd Fr Ac Ch r.2.1 r.2.2 Pa OT Ea Ga Im0 Im1) (zI r.1) := by
  unfold fX_layers at h
  refine zMi_q (own := RX11) rfl (by decide +kernel) (Nat.le_of_ble_eq_true rfl) (lv := [(0, .ref (g.2.2 0))]) rfl ⟨rfl, rfl⟩ ?_
  intro p e s m args below meth c A Q hQ cx
  refine z_aload_n cx d_X11_layers_0 1 rfl rfl 0 rfl ?_
  refine z_get cx d_X11_layers_1 4 rfl e_X rfl zX11 6 (by decide) q_543 rfl rfl ?_
  refine y_callV_i (As := []) (rest := []) (W := fun u_1 => wX g X N T Rd Fr Ac Ch u_1.2.1 u_1.2.2 Pa OT Ea Ga Im0 Im1) (rf := fun u_1 => zI u_1.1) (rm := zrLy_melt) cx (fun _ hq => tLy_melt hq) d_X11_layers_4 7 rfl kk_X4_melt q_1169 q_1170 q_1171 rfl e_Ly rfl ⟨rfl, rfl⟩ ⟨Nat.le_of_ble_eq_true rfl, Nat.le_of_ble_eq_true rfl⟩ rfl rfl (Nat.le_of_ble_eq_true rfl) ⟨Nat.zero_le _, Nat.zero_le _⟩ h (fun u_1 h => ?_)
  subst hQ
  obtain rfl := Option.some.inj h
  exact z_iret cx d_X11_layers_7 rfl rfl
def zrX_layerAt : Room := { frames := 4, cells := 0, slots := 0, locals := 94 }
set_option maxHeartbeats 4000000 in
theorem tX_layerAt {l : Launch} {g : ZG} {X : ZB} {N : ZB} {T : ZB} {Rd : ZB} {Fr : ZB} {Ac : ZA} {Ch : ZB} {PS : ZB} {Ly : ZB} {Pa : ZQ} {OT : ZB} {Ea : ZB} {Ga : ZB} {Im0 : ZO} {Im1 : ZO} {a1 : Int} {a2 : Int} {r : Int × ZB × ZB} (h : fX_layerAt N PS Ly a1 a2 = some r) : zMi l yX11_layerAt cX11_layerAt 3 (some .int) zrX_layerAt g [.ref (g.2.2 0), .int (zI a1), .int (zI a2)] (wX g X N T Rd Fr Ac Ch PS Ly Pa OT Ea Ga Im0 Im1) (wX g X N T Rd Fr Ac Ch r.2.1 r.2.2 Pa OT Ea Ga Im0 Im1) (zI r.1) := by
  unfold fX_layerAt at h
  refine zMi_q (own := RX11) rfl (by decide +kernel) (Nat.le_of_ble_eq_true rfl) (lv := [(0, .ref (g.2.2 0)), (1, .int (zI a1)), (2, .int (zI a2))]) rfl ⟨rfl, rfl⟩ ?_
  intro p e s m args below meth c A Q hQ cx
  refine z_iload_n cx d_X11_layerAt_0 1 rfl rfl 1 rfl ?_
  refine kf2_f (P := fun (PS_1 : ZB) (Ly_2 : ZB) => V p l e zrX_layerAt s m args below meth c A s.heap g 3 Q (wX g X N T Rd Fr Ac Ch PS_1 Ly_2 Pa OT Ea Ga Im0 Im1) 0 0 [] 24 []) h (fun PS_1 Ly_2 h => ?_) (fun k_3 hk_3 h => ?_)
  · refine y_iconst cx d_X11_layerAt_24 25 rfl ?_
    subst hQ
    obtain rfl := Option.some.inj h
    exact z_iret cx d_X11_layerAt_25 rfl rfl
  refine y_if_lt cx d_X11_layerAt_1 4 rfl 24 (by decide) rfl h (fun h => ?_) (fun h => ?_)
  · refine z_sub [] rfl ?_
    exact hk_3 _ _ h
  · refine z_iload_n cx d_X11_layerAt_4 5 rfl rfl 1 rfl ?_
    refine z_aload_n cx d_X11_layerAt_5 6 rfl rfl 0 rfl ?_
    refine z_get cx d_X11_layerAt_6 9 rfl e_X rfl zX11 6 (by decide) q_543 rfl rfl ?_
    refine y_callV_i (As := []) (rest := [.int (zI a1)]) (W := fun u_4 => wX g X N T Rd Fr Ac Ch u_4.2.1 u_4.2.2 Pa OT Ea Ga Im0 Im1) (rf := fun u_4 => zI u_4.1) (rm := zrLy_melt) cx (fun _ hq => tLy_melt hq) d_X11_layerAt_9 12 rfl kk_X4_melt q_1169 q_1170 q_1171 rfl e_Ly rfl ⟨rfl, rfl⟩ ⟨Nat.le_of_ble_eq_true rfl, Nat.le_of_ble_eq_true rfl⟩ rfl rfl (Nat.le_of_ble_eq_true rfl) ⟨Nat.zero_le _, Nat.zero_le _⟩ h (fun u_4 h => ?_)
    refine y_icmp_ge cx d_X11_layerAt_12 15 rfl 24 (by decide) rfl rfl h (fun h => ?_) (fun h => ?_)
    · refine z_sub [] rfl ?_
      exact hk_3 _ _ h
    · refine z_iload_n cx d_X11_layerAt_15 16 rfl rfl 2 rfl ?_
      refine y_if_lt cx d_X11_layerAt_16 19 rfl 24 (by decide) rfl h (fun h => ?_) (fun h => ?_)
      · refine z_sub [] rfl ?_
        exact hk_3 _ _ h
      · refine z_iload_n cx d_X11_layerAt_19 20 rfl rfl 2 rfl ?_
        refine y_iconst cx d_X11_layerAt_20 21 rfl ?_
        refine y_icmp_le cx d_X11_layerAt_21 24 rfl 26 (by decide) rfl (nm_eq (x := 2) (by decide) (by decide)) h (fun h => ?_) (fun h => ?_)
        · refine z_iload_n cx d_X11_layerAt_26 27 rfl rfl 2 rfl ?_
          refine y_iconst cx d_X11_layerAt_27 28 rfl ?_
          refine y_icmp_ne cx d_X11_layerAt_28 31 rfl 40 (by decide) rfl (nm_eq (x := 2) (by decide) (by decide)) h (fun h => ?_) (fun h => ?_)
          · refine z_aload_n cx d_X11_layerAt_40 41 rfl rfl 0 rfl ?_
            refine z_get cx d_X11_layerAt_41 44 rfl e_X rfl zX11 6 (by decide) q_543 rfl rfl ?_
            refine z_iload_n cx d_X11_layerAt_44 45 rfl rfl 1 rfl ?_
            refine y_callV_i (As := [.int (zI a1)]) (rest := []) (W := fun u_5 => wX g X N T Rd Fr Ac Ch u_4.2.1 u_4.2.2 Pa OT Ea Ga Im0 Im1) (rf := fun u_5 => zI u_5) (rm := zr0) cx (fun _ hq => tLy_aboveAt hq) d_X11_layerAt_45 48 rfl kk_X4_aboveAt q_1196 q_1197 q_1198 rfl e_Ly rfl ⟨rfl, rfl⟩ ⟨Nat.le_of_ble_eq_true rfl, Nat.le_of_ble_eq_true rfl⟩ rfl rfl (Nat.le_of_ble_eq_true rfl) ⟨Nat.zero_le _, Nat.zero_le _⟩ h (fun u_5 h => ?_)
            refine z_aload_n cx d_X11_layerAt_48 49 rfl rfl 0 rfl ?_
            refine z_get cx d_X11_layerAt_49 52 rfl e_X rfl zX11 6 (by decide) q_543 rfl rfl ?_
            refine z_iload_n cx d_X11_layerAt_52 53 rfl rfl 1 rfl ?_
            refine y_callV_i (As := [.int (zI a1)]) (rest := [.int (zI u_5)]) (W := fun u_6 => wX g X N T Rd Fr Ac Ch u_4.2.1 u_4.2.2 Pa OT Ea Ga Im0 Im1) (rf := fun u_6 => zI u_6) (rm := zr0) cx (fun _ hq => tLy_belowAt hq) d_X11_layerAt_53 56 rfl kk_X4_belowAt q_1200 q_1201 q_1202 rfl e_Ly rfl ⟨rfl, rfl⟩ ⟨Nat.le_of_ble_eq_true rfl, Nat.le_of_ble_eq_true rfl⟩ rfl rfl (Nat.le_of_ble_eq_true rfl) ⟨Nat.zero_le _, Nat.zero_le _⟩ h (fun u_6 h => ?_)
            refine z_iload_n cx d_X11_layerAt_56 57 rfl rfl 2 rfl ?_
            refine y_callS_i (As := [.int (zI u_5), .int (zI u_6), .int (zI a2)]) (rest := []) (W := fun u_7 => wX g X N T Rd Fr Ac Ch u_4.2.1 u_4.2.2 Pa OT Ea Ga Im0 Im1) (rf := fun u_7 => zI u_7) (rm := zr0) cx (fun _ hq => tX_leastTerms hq) d_X11_layerAt_57 60 rfl kk_X11_leastTerms q_1055 q_1056 ⟨rfl, rfl⟩ ⟨Nat.le_of_ble_eq_true rfl, Nat.le_of_ble_eq_true rfl⟩ rfl rfl (Nat.le_of_ble_eq_true rfl) ⟨Nat.zero_le _, Nat.zero_le _⟩ h (fun u_7 h => ?_)
            subst hQ
            obtain rfl := Option.some.inj h
            exact z_iret cx d_X11_layerAt_60 rfl rfl
          · refine z_aload_n cx d_X11_layerAt_31 32 rfl rfl 0 rfl ?_
            refine z_get cx d_X11_layerAt_32 35 rfl e_X rfl zX11 6 (by decide) q_543 rfl rfl ?_
            refine z_iload_n cx d_X11_layerAt_35 36 rfl rfl 1 rfl ?_
            refine y_callV_i (As := [.int (zI a1)]) (rest := []) (W := fun u_8 => wX g X N T Rd Fr Ac Ch u_4.2.1 u_4.2.2 Pa OT Ea Ga Im0 Im1) (rf := fun u_8 => zI u_8) (rm := zr0) cx (fun _ hq => tLy_setAt hq) d_X11_layerAt_36 39 rfl kk_X4_setAt q_1192 q_1193 q_1194 rfl e_Ly rfl ⟨rfl, rfl⟩ ⟨Nat.le_of_ble_eq_true rfl, Nat.le_of_ble_eq_true rfl⟩ rfl rfl (Nat.le_of_ble_eq_true rfl) ⟨Nat.zero_le _, Nat.zero_le _⟩ h (fun u_8 h => ?_)
            subst hQ
            obtain rfl := Option.some.inj h
            exact z_iret cx d_X11_layerAt_39 rfl rfl
        · refine z_sub [] rfl ?_
          exact hk_3 _ _ h
def zrX_light : Room := { frames := 4, cells := 0, slots := 0, locals := 91 }
set_option maxHeartbeats 4000000 in
theorem tX_light {l : Launch} {g : ZG} {X : ZB} {N : ZB} {T : ZB} {Rd : ZB} {Fr : ZB} {Ac : ZA} {Ch : ZB} {PS : ZB} {Ly : ZB} {Pa : ZQ} {OT : ZB} {Ea : ZB} {Ga : ZB} {Im0 : ZO} {Im1 : ZO} {a1 : Int} {a2 : Int} {r : Int × ZB} (h : fX_light N PS a1 a2 = some r) : zMi l yX11_light cX11_light 4 (some .int) zrX_light g [.ref (g.2.2 0), .int (zI a1), .int (zI a2)] (wX g X N T Rd Fr Ac Ch PS Ly Pa OT Ea Ga Im0 Im1) (wX g X N T Rd Fr Ac Ch r.2 Ly Pa OT Ea Ga Im0 Im1) (zI r.1) := by
  unfold fX_light at h
  refine zMi_q (own := RX11) rfl (by decide +kernel) (Nat.le_of_ble_eq_true rfl) (lv := [(0, .ref (g.2.2 0)), (1, .int (zI a1)), (2, .int (zI a2))]) rfl ⟨rfl, rfl⟩ ?_
  intro p e s m args below meth c A Q hQ cx
  refine z_iload_n cx d_X11_light_0 1 rfl rfl 1 rfl ?_
  refine kf0_f (P := V p l e zrX_light s m args below meth c A s.heap g 4 Q (wX g X N T Rd Fr Ac Ch PS Ly Pa OT Ea Ga Im0 Im1) 0 0 [] 19 []) h (fun h => ?_) (fun k_1 hk_1 h => ?_)
  · refine y_iconst cx d_X11_light_19 20 rfl ?_
    subst hQ
    obtain rfl := Option.some.inj h
    exact z_iret cx d_X11_light_20 rfl rfl
  refine y_if_lt cx d_X11_light_1 4 rfl 19 (by decide) rfl h (fun h => ?_) (fun h => ?_)
  · refine z_sub [] rfl ?_
    exact hk_1  h
  · refine z_iload_n cx d_X11_light_4 5 rfl rfl 1 rfl ?_
    refine y_bipush cx d_X11_light_5 7 rfl (by decide) ?_
    refine y_icmp_gt cx d_X11_light_7 10 rfl 19 (by decide) rfl (nm_eq (x := 24) (by decide) (by decide)) h (fun h => ?_) (fun h => ?_)
    · refine z_sub [] rfl ?_
      exact hk_1  h
    · refine z_iload_n cx d_X11_light_10 11 rfl rfl 2 rfl ?_
      refine y_if_lt cx d_X11_light_11 14 rfl 19 (by decide) rfl h (fun h => ?_) (fun h => ?_)
      · refine z_sub [] rfl ?_
        exact hk_1  h
      · refine z_iload_n cx d_X11_light_14 15 rfl rfl 2 rfl ?_
        refine y_iconst cx d_X11_light_15 16 rfl ?_
        refine y_icmp_le cx d_X11_light_16 19 rfl 21 (by decide) rfl (nm_eq (x := 1) (by decide) (by decide)) h (fun h => ?_) (fun h => ?_)
        · refine z_aload_n cx d_X11_light_21 22 rfl rfl 0 rfl ?_
          refine z_get cx d_X11_light_22 25 rfl e_X rfl zX11 5 (by decide) q_542 rfl rfl ?_
          refine z_iload_n cx d_X11_light_25 26 rfl rfl 1 rfl ?_
          refine y_callV_i (As := [.int (zI a1)]) (rest := []) (W := fun u_2 => wX g X N T Rd Fr Ac Ch u_2.2 Ly Pa OT Ea Ga Im0 Im1) (rf := fun u_2 => zI u_2.1) (rm := zrPS_takeByWeight) cx (fun _ hq => tPS_takeByWeight hq) d_X11_light_26 29 rfl kk_X8_takeByWeight q_1208 q_1209 q_1210 rfl e_PS rfl ⟨rfl, rfl⟩ ⟨Nat.le_of_ble_eq_true rfl, Nat.le_of_ble_eq_true rfl⟩ rfl rfl (Nat.le_of_ble_eq_true rfl) ⟨Nat.zero_le _, Nat.zero_le _⟩ h (fun u_2 h => ?_)
          refine y_istore_n cx d_X11_light_29 30 rfl rfl (by decide) (lv' := [(3, .int (zI u_2.1)), (0, .ref (g.2.2 0)), (1, .int (zI a1)), (2, .int (zI a2))]) rfl ?_
          refine z_iload_n cx d_X11_light_30 31 rfl rfl 3 rfl ?_
          refine y_iconst cx d_X11_light_31 32 rfl ?_
          refine kf1_f (P := fun (w0_3 : Int) => V p l e zrX_light s m args below meth c A s.heap g 4 Q (wX g X N T Rd Fr Ac Ch u_2.2 Ly Pa OT Ea Ga Im0 Im1) 0 0 [] 47 [.int (zI w0_3)]) h (fun w0_3 h => ?_) (fun k_4 hk_4 h => ?_)
          · subst hQ
            obtain rfl := Option.some.inj h
            exact z_iret cx d_X11_light_47 rfl rfl
          refine y_icmp_ne cx d_X11_light_32 35 rfl 39 (by decide) rfl (nm_eq (x := 1) (by decide) (by decide)) h (fun h => ?_) (fun h => ?_)
          · refine z_aload_n cx d_X11_light_39 40 rfl rfl 1 rfl ?_
            refine z_get cx d_X11_light_40 43 rfl e_X rfl zX11 0 (by decide) q_537 rfl rfl ?_
            refine z_iload_n cx d_X11_light_43 44 rfl rfl 0 rfl ?_
            refine y_callV_i (As := [.int (zI u_2.1)]) (rest := []) (W := fun u_5 => wX g X N T Rd Fr Ac Ch u_2.2 Ly Pa OT Ea Ga Im0 Im1) (rf := fun u_5 => zI u_5) (rm := zr0) cx (fun _ hq => tN_weightOf hq) d_X11_light_44 47 rfl kk_X5_weightOf q_1212 q_1213 q_1214 rfl e_N rfl ⟨rfl, rfl⟩ ⟨Nat.le_of_ble_eq_true rfl, Nat.le_of_ble_eq_true rfl⟩ rfl rfl (Nat.le_of_ble_eq_true rfl) ⟨Nat.zero_le _, Nat.zero_le _⟩ h (fun u_5 h => ?_)
            refine z_sub [] rfl ?_
            exact hk_4 _ h
          · refine z_iload_n cx d_X11_light_35 36 rfl rfl 0 rfl ?_
            refine z_goto cx d_X11_light_36 47 (by decide) ?_
            refine z_sub [] rfl ?_
            exact hk_4 _ h
        · refine z_sub [] rfl ?_
          exact hk_1  h
set_option maxHeartbeats 4000000 in
theorem tX_draw {l : Launch} {g : ZG} {X : ZB} {N : ZB} {T : ZB} {Rd : ZB} {Fr : ZB} {Ac : ZA} {Ch : ZB} {PS : ZB} {Ly : ZB} {Pa : ZQ} {OT : ZB} {Ea : ZB} {Ga : ZB} {Im0 : ZO} {Im1 : ZO} {a1 : Int} {r : Int × ZB} (h : fX_draw X a1 = some r) : zMi l yX11_draw cX11_draw 2 (some .int) zr0 g [.ref (g.2.2 0), .int (zI a1)] (wX g X N T Rd Fr Ac Ch PS Ly Pa OT Ea Ga Im0 Im1) (wX g r.2 N T Rd Fr Ac Ch PS Ly Pa OT Ea Ga Im0 Im1) (zI r.1) := by
  unfold fX_draw at h
  refine zMi_q (own := RX11) rfl (by decide +kernel) (Nat.le_of_ble_eq_true rfl) (lv := [(0, .ref (g.2.2 0)), (1, .int (zI a1))]) rfl ⟨rfl, rfl⟩ ?_
  intro p e s m args below meth c A Q hQ cx
  refine z_aload_n cx d_X11_draw_0 1 rfl rfl 0 rfl ?_
  refine z_aload_n cx d_X11_draw_1 2 rfl rfl 0 rfl ?_
  refine z_get cx d_X11_draw_2 5 rfl e_X rfl zX11 12 (by decide) q_549 rfl rfl ?_
  refine y_ldc_w cx 1103515245 d_X11_draw_5 8 rfl q_1228 ?_
  refine y_imul cx d_X11_draw_8 9 rfl ?_
  refine y_sipush cx d_X11_draw_9 12 rfl (by decide) ?_
  refine y_iadd cx d_X11_draw_12 13 rfl ?_
  refine y_put cx d_X11_draw_13 16 rfl e_X rfl zX11 tyX11_ok nmX11 12 (by decide) q_549 rfl rfl rfl rfl (Nat.le_of_ble_eq_true rfl) h (fun _ h9 => s_X_12 h9) (fun X_1 h => ?_)
  refine z_iload_n cx d_X11_draw_16 17 rfl rfl 1 rfl ?_
  refine y_iconst cx d_X11_draw_17 18 rfl ?_
  refine kf1_f (P := fun (w0_2 : Int) => V p l e zr0 s m args below meth c A s.heap g 2 Q (wX g X_1 N T Rd Fr Ac Ch PS Ly Pa OT Ea Ga Im0 Im1) 0 0 [] 34 [.int (zI w0_2)]) h (fun w0_2 h => ?_) (fun k_3 hk_3 h => ?_)
  · subst hQ
    obtain rfl := Option.some.inj h
    exact z_iret cx d_X11_draw_34 rfl rfl
  refine y_icmp_ge cx d_X11_draw_18 21 rfl 25 (by decide) rfl (nm_eq (x := 1) (by decide) (by decide)) h (fun h => ?_) (fun h => ?_)
  · refine z_aload_n cx d_X11_draw_25 26 rfl rfl 0 rfl ?_
    refine z_get cx d_X11_draw_26 29 rfl e_X rfl zX11 12 (by decide) q_549 rfl rfl ?_
    refine y_bipush cx d_X11_draw_29 31 rfl (by decide) ?_
    refine y_iushr cx d_X11_draw_31 32 rfl ?_
    refine z_iload_n cx d_X11_draw_32 33 rfl rfl 1 rfl ?_
    refine y_irem cx d_X11_draw_33 34 rfl h (fun h => ?_)
    refine z_sub [] rfl ?_
    exact hk_3 _ h
  · refine y_iconst cx d_X11_draw_21 22 rfl ?_
    refine z_goto cx d_X11_draw_22 34 (by decide) ?_
    refine z_sub [] rfl ?_
    exact hk_3 _ h
def zrX_deedTrade : Room := { frames := 3, cells := 0, slots := 0, locals := 79 }
set_option maxHeartbeats 4000000 in
theorem tX_deedTrade {l : Launch} {g : ZG} {X : ZB} {N : ZB} {T : ZB} {Rd : ZB} {Fr : ZB} {Ac : ZA} {Ch : ZB} {PS : ZB} {Ly : ZB} {Pa : ZQ} {OT : ZB} {Ea : ZB} {Ga : ZB} {Im0 : ZO} {Im1 : ZO} {a1 : Int} {a2 : Int} {r : Int × ZB × ZB} (h : fX_deedTrade N Ch a1 a2 = some r) : zMi l yX11_deedTrade cX11_deedTrade 4 (some .boolean) zrX_deedTrade g [.ref (g.2.2 0), .int (zI a1), .int (zI a2)] (wX g X N T Rd Fr Ac Ch PS Ly Pa OT Ea Ga Im0 Im1) (wX g X r.2.1 T Rd Fr Ac r.2.2 PS Ly Pa OT Ea Ga Im0 Im1) (zI r.1) := by
  unfold fX_deedTrade at h
  refine zMi_q (own := RX11) rfl (by decide +kernel) (Nat.le_of_ble_eq_true rfl) (lv := [(0, .ref (g.2.2 0)), (1, .int (zI a1)), (2, .int (zI a2))]) rfl ⟨rfl, rfl⟩ ?_
  intro p e s m args below meth c A Q hQ cx
  refine z_aload_n cx d_X11_deedTrade_0 1 rfl rfl 0 rfl ?_
  refine z_get cx d_X11_deedTrade_1 4 rfl e_X rfl zX11 4 (by decide) q_541 rfl rfl ?_
  refine z_iload_n cx d_X11_deedTrade_4 5 rfl rfl 1 rfl ?_
  refine z_iload_n cx d_X11_deedTrade_5 6 rfl rfl 2 rfl ?_
  refine y_callV_i (As := [.int (zI a1), .int (zI a2)]) (rest := []) (W := fun u_1 => wX g X N T Rd Fr Ac u_1.2 PS Ly Pa OT Ea Ga Im0 Im1) (rf := fun u_1 => zI u_1.1) (rm := zrCh_traded) cx (fun _ hq => tCh_traded hq) d_X11_deedTrade_6 9 rfl kk_X1_traded q_859 q_860 q_861 rfl e_Ch rfl ⟨rfl, rfl⟩ ⟨Nat.le_of_ble_eq_true rfl, Nat.le_of_ble_eq_true rfl⟩ rfl rfl (Nat.le_of_ble_eq_true rfl) ⟨Nat.zero_le _, Nat.zero_le _⟩ h (fun u_1 h => ?_)
  refine y_istore_n cx d_X11_deedTrade_9 10 rfl rfl (by decide) (lv' := [(3, .int (zI u_1.1)), (0, .ref (g.2.2 0)), (1, .int (zI a1)), (2, .int (zI a2))]) rfl ?_
  refine z_iload_n cx d_X11_deedTrade_10 11 rfl rfl 0 rfl ?_
  refine y_iconst cx d_X11_deedTrade_11 12 rfl ?_
  refine y_icmp_ne cx d_X11_deedTrade_12 15 rfl 17 (by decide) rfl (nm_eq (x := (-1)) (by decide) (by decide)) h (fun h => ?_) (fun h => ?_)
  · refine z_aload_n cx d_X11_deedTrade_17 18 rfl rfl 1 rfl ?_
    refine z_get cx d_X11_deedTrade_18 21 rfl e_X rfl zX11 4 (by decide) q_541 rfl rfl ?_
    refine z_iload_n cx d_X11_deedTrade_21 22 rfl rfl 2 rfl ?_
    refine z_iload_n cx d_X11_deedTrade_22 23 rfl rfl 0 rfl ?_
    refine y_callV_v (As := [.int (zI a1), .int (zI u_1.1)]) (rest := []) (W := fun u_2 => wX g X u_2 T Rd Fr Ac u_1.2 PS Ly Pa OT Ea Ga Im0 Im1) (rm := zr0) cx (fun _ hq => tCh_swap hq) d_X11_deedTrade_23 26 rfl kk_X1_swap q_869 q_870 q_871 rfl e_Ch rfl ⟨rfl, rfl⟩ ⟨Nat.le_of_ble_eq_true rfl, Nat.le_of_ble_eq_true rfl⟩ rfl rfl (Nat.le_of_ble_eq_true rfl) ⟨Nat.zero_le _, Nat.zero_le _⟩ h (fun u_2 h => ?_)
    refine y_iconst cx d_X11_deedTrade_26 27 rfl ?_
    subst hQ
    obtain rfl := Option.some.inj h
    exact z_zret cx d_X11_deedTrade_27 (zb01 (by decide)) rfl rfl
  · refine y_iconst cx d_X11_deedTrade_15 16 rfl ?_
    subst hQ
    obtain rfl := Option.some.inj h
    exact z_zret cx d_X11_deedTrade_16 (zb01 (by decide)) rfl rfl
def zrX_deedPut : Room := { frames := 3, cells := 0, slots := 0, locals := 76 }
set_option maxHeartbeats 4000000 in
theorem tX_deedPut {l : Launch} {g : ZG} {X : ZB} {N : ZB} {T : ZB} {Rd : ZB} {Fr : ZB} {Ac : ZA} {Ch : ZB} {PS : ZB} {Ly : ZB} {Pa : ZQ} {OT : ZB} {Ea : ZB} {Ga : ZB} {Im0 : ZO} {Im1 : ZO} {a1 : Int} {a2 : Int} {r : Int × ZB × ZB} (h : fX_deedPut N Ch a1 a2 = some r) : zMi l yX11_deedPut cX11_deedPut 3 (some .boolean) zrX_deedPut g [.ref (g.2.2 0), .int (zI a1), .int (zI a2)] (wX g X N T Rd Fr Ac Ch PS Ly Pa OT Ea Ga Im0 Im1) (wX g X r.2.1 T Rd Fr Ac r.2.2 PS Ly Pa OT Ea Ga Im0 Im1) (zI r.1) := by
  unfold fX_deedPut at h
  refine zMi_q (own := RX11) rfl (by decide +kernel) (Nat.le_of_ble_eq_true rfl) (lv := [(0, .ref (g.2.2 0)), (1, .int (zI a1)), (2, .int (zI a2))]) rfl ⟨rfl, rfl⟩ ?_
  intro p e s m args below meth c A Q hQ cx
  refine z_aload_n cx d_X11_deedPut_0 1 rfl rfl 0 rfl ?_
  refine z_iload_n cx d_X11_deedPut_1 2 rfl rfl 1 rfl ?_
  refine z_iload_n cx d_X11_deedPut_2 3 rfl rfl 2 rfl ?_
  refine y_callV_i (As := [.int (zI a1), .int (zI a2)]) (rest := []) (W := fun u_1 => wX g X N T Rd Fr Ac u_1.2 PS Ly Pa OT Ea Ga Im0 Im1) (rf := fun u_1 => zI u_1.1) (rm := zrX_whyNotPut) cx (fun _ hq => tX_whyNotPut hq) d_X11_deedPut_3 6 rfl kk_X11_whyNotPut q_776 q_778 q_12 rfl e_X rfl ⟨rfl, rfl⟩ ⟨Nat.le_of_ble_eq_true rfl, Nat.le_of_ble_eq_true rfl⟩ rfl rfl (Nat.le_of_ble_eq_true rfl) ⟨Nat.zero_le _, Nat.zero_le _⟩ h (fun u_1 h => ?_)
  refine y_if_eq cx d_X11_deedPut_6 9 rfl 11 (by decide) rfl h (fun h => ?_) (fun h => ?_)
  · refine z_aload_n cx d_X11_deedPut_11 12 rfl rfl 0 rfl ?_
    refine z_get cx d_X11_deedPut_12 15 rfl e_X rfl zX11 0 (by decide) q_537 rfl rfl ?_
    refine z_get cx d_X11_deedPut_15 18 rfl e_N rfl zX5 3 (by decide) q_168 rfl rfl ?_
    refine z_iload_n cx d_X11_deedPut_18 19 rfl rfl 1 rfl ?_
    refine z_iload_n cx d_X11_deedPut_19 20 rfl rfl 2 rfl ?_
    refine y_iast cx d_X11_deedPut_20 21 rfl e_N_home (by decide) h (fun _ h9 => s_N_home h9) (fun N_2 h => ?_)
    refine y_iconst cx d_X11_deedPut_21 22 rfl ?_
    subst hQ
    obtain rfl := Option.some.inj h
    exact z_zret cx d_X11_deedPut_22 (zb01 (by decide)) rfl rfl
  · refine y_iconst cx d_X11_deedPut_9 10 rfl ?_
    subst hQ
    obtain rfl := Option.some.inj h
    exact z_zret cx d_X11_deedPut_10 (zb01 (by decide)) rfl rfl
def zrX_deedBreakOrMend : Room := { frames := 1, cells := 0, slots := 0, locals := 21 }
set_option maxHeartbeats 4000000 in
theorem tX_deedBreakOrMend {l : Launch} {g : ZG} {X : ZB} {N : ZB} {T : ZB} {Rd : ZB} {Fr : ZB} {Ac : ZA} {Ch : ZB} {PS : ZB} {Ly : ZB} {Pa : ZQ} {OT : ZB} {Ea : ZB} {Ga : ZB} {Im0 : ZO} {Im1 : ZO} {a1 : Int} {r : Int × ZB} (h : fX_deedBreakOrMend N a1 = some r) : zMi l yX11_deedBreakOrMend cX11_deedBreakOrMend 2 (some .boolean) zrX_deedBreakOrMend g [.ref (g.2.2 0), .int (zI a1)] (wX g X N T Rd Fr Ac Ch PS Ly Pa OT Ea Ga Im0 Im1) (wX g X r.2 T Rd Fr Ac Ch PS Ly Pa OT Ea Ga Im0 Im1) (zI r.1) := by
  unfold fX_deedBreakOrMend at h
  refine zMi_q (own := RX11) rfl (by decide +kernel) (Nat.le_of_ble_eq_true rfl) (lv := [(0, .ref (g.2.2 0)), (1, .int (zI a1))]) rfl ⟨rfl, rfl⟩ ?_
  intro p e s m args below meth c A Q hQ cx
  refine z_aload_n cx d_X11_deedBreakOrMend_0 1 rfl rfl 0 rfl ?_
  refine z_get cx d_X11_deedBreakOrMend_1 4 rfl e_X rfl zX11 0 (by decide) q_537 rfl rfl ?_
  refine z_iload_n cx d_X11_deedBreakOrMend_4 5 rfl rfl 1 rfl ?_
  refine y_callV_i (As := [.int (zI a1)]) (rest := []) (W := fun u_1 => wX g X N T Rd Fr Ac Ch PS Ly Pa OT Ea Ga Im0 Im1) (rf := fun u_1 => zI u_1) (rm := zr0) cx (fun _ hq => tN_isSound hq) d_X11_deedBreakOrMend_5 8 rfl kk_X5_isSound q_780 q_781 q_782 rfl e_N rfl ⟨rfl, rfl⟩ ⟨Nat.le_of_ble_eq_true rfl, Nat.le_of_ble_eq_true rfl⟩ rfl rfl (Nat.le_of_ble_eq_true rfl) ⟨Nat.zero_le _, Nat.zero_le _⟩ h (fun u_1 h => ?_)
  refine kf1_f (P := fun (N_2 : ZB) => V p l e zrX_deedBreakOrMend s m args below meth c A s.heap g 2 Q (wX g X N_2 T Rd Fr Ac Ch PS Ly Pa OT Ea Ga Im0 Im1) 0 0 [] 30 []) h (fun N_2 h => ?_) (fun k_3 hk_3 h => ?_)
  · refine y_iconst cx d_X11_deedBreakOrMend_30 31 rfl ?_
    subst hQ
    obtain rfl := Option.some.inj h
    exact z_zret cx d_X11_deedBreakOrMend_31 (zb01 (by decide)) rfl rfl
  refine y_if_eq cx d_X11_deedBreakOrMend_8 11 rfl 22 (by decide) rfl h (fun h => ?_) (fun h => ?_)
  · refine z_aload_n cx d_X11_deedBreakOrMend_22 23 rfl rfl 0 rfl ?_
    refine z_get cx d_X11_deedBreakOrMend_23 26 rfl e_X rfl zX11 0 (by decide) q_537 rfl rfl ?_
    refine z_iload_n cx d_X11_deedBreakOrMend_26 27 rfl rfl 1 rfl ?_
    refine y_callV_v (As := [.int (zI a1)]) (rest := []) (W := fun u_4 => wX g X u_4 T Rd Fr Ac Ch PS Ly Pa OT Ea Ga Im0 Im1) (rm := zr0) cx (fun _ hq => tN_mendLine hq) d_X11_deedBreakOrMend_27 30 rfl kk_X5_mendLine q_885 q_886 q_887 rfl e_N rfl ⟨rfl, rfl⟩ ⟨Nat.le_of_ble_eq_true rfl, Nat.le_of_ble_eq_true rfl⟩ rfl rfl (Nat.le_of_ble_eq_true rfl) ⟨Nat.zero_le _, Nat.zero_le _⟩ h (fun u_4 h => ?_)
    refine z_sub [] rfl ?_
    exact hk_3 _ h
  · refine z_aload_n cx d_X11_deedBreakOrMend_11 12 rfl rfl 0 rfl ?_
    refine z_get cx d_X11_deedBreakOrMend_12 15 rfl e_X rfl zX11 0 (by decide) q_537 rfl rfl ?_
    refine z_iload_n cx d_X11_deedBreakOrMend_15 16 rfl rfl 1 rfl ?_
    refine y_callV_v (As := [.int (zI a1)]) (rest := []) (W := fun u_5 => wX g X u_5 T Rd Fr Ac Ch PS Ly Pa OT Ea Ga Im0 Im1) (rm := zr0) cx (fun _ hq => tN_breakLine hq) d_X11_deedBreakOrMend_16 19 rfl kk_X5_breakLine q_877 q_878 q_879 rfl e_N rfl ⟨rfl, rfl⟩ ⟨Nat.le_of_ble_eq_true rfl, Nat.le_of_ble_eq_true rfl⟩ rfl rfl (Nat.le_of_ble_eq_true rfl) ⟨Nat.zero_le _, Nat.zero_le _⟩ h (fun u_5 h => ?_)
    refine z_goto cx d_X11_deedBreakOrMend_19 30 (by decide) ?_
    refine z_sub [] rfl ?_
    exact hk_3 _ h
set_option maxHeartbeats 4000000 in
theorem tX_deedLift {l : Launch} {g : ZG} {X : ZB} {N : ZB} {T : ZB} {Rd : ZB} {Fr : ZB} {Ac : ZA} {Ch : ZB} {PS : ZB} {Ly : ZB} {Pa : ZQ} {OT : ZB} {Ea : ZB} {Ga : ZB} {Im0 : ZO} {Im1 : ZO} {a1 : Int} {r : Int × ZB} (h : fX_deedLift N a1 = some r) : zMi l yX11_deedLift cX11_deedLift 2 (some .boolean) zr0 g [.ref (g.2.2 0), .int (zI a1)] (wX g X N T Rd Fr Ac Ch PS Ly Pa OT Ea Ga Im0 Im1) (wX g X r.2 T Rd Fr Ac Ch PS Ly Pa OT Ea Ga Im0 Im1) (zI r.1) := by
  unfold fX_deedLift at h
  refine zMi_q (own := RX11) rfl (by decide +kernel) (Nat.le_of_ble_eq_true rfl) (lv := [(0, .ref (g.2.2 0)), (1, .int (zI a1))]) rfl ⟨rfl, rfl⟩ ?_
  intro p e s m args below meth c A Q hQ cx
  refine z_aload_n cx d_X11_deedLift_0 1 rfl rfl 0 rfl ?_
  refine z_get cx d_X11_deedLift_1 4 rfl e_X rfl zX11 0 (by decide) q_537 rfl rfl ?_
  refine z_get cx d_X11_deedLift_4 7 rfl e_N rfl zX5 3 (by decide) q_168 rfl rfl ?_
  refine z_iload_n cx d_X11_deedLift_7 8 rfl rfl 1 rfl ?_
  refine y_ialdx cx d_X11_deedLift_8 9 rfl e_N_home (by decide) h (fun x_1 h => ?_)
  refine y_iconst cx d_X11_deedLift_9 10 rfl ?_
  refine y_icmp_ne cx d_X11_deedLift_10 13 rfl 15 (by decide) rfl (nm_eq (x := (-1)) (by decide) (by decide)) h (fun h => ?_) (fun h => ?_)
  · refine z_aload_n cx d_X11_deedLift_15 16 rfl rfl 0 rfl ?_
    refine z_get cx d_X11_deedLift_16 19 rfl e_X rfl zX11 0 (by decide) q_537 rfl rfl ?_
    refine z_get cx d_X11_deedLift_19 22 rfl e_N rfl zX5 3 (by decide) q_168 rfl rfl ?_
    refine z_iload_n cx d_X11_deedLift_22 23 rfl rfl 1 rfl ?_
    refine y_iconst cx d_X11_deedLift_23 24 rfl ?_
    refine y_iast cx d_X11_deedLift_24 25 rfl e_N_home (by decide) h (fun _ h9 => s_N_home h9) (fun N_2 h => ?_)
    refine y_iconst cx d_X11_deedLift_25 26 rfl ?_
    subst hQ
    obtain rfl := Option.some.inj h
    exact z_zret cx d_X11_deedLift_26 (zb01 (by decide)) rfl rfl
  · refine y_iconst cx d_X11_deedLift_13 14 rfl ?_
    subst hQ
    obtain rfl := Option.some.inj h
    exact z_zret cx d_X11_deedLift_14 (zb01 (by decide)) rfl rfl
def zrX_deedPlace : Room := { frames := 4, cells := 0, slots := 0, locals := 104 }
set_option maxHeartbeats 4000000 in
theorem tX_deedPlace {l : Launch} {g : ZG} {X : ZB} {N : ZB} {T : ZB} {Rd : ZB} {Fr : ZB} {Ac : ZA} {Ch : ZB} {PS : ZB} {Ly : ZB} {Pa : ZQ} {OT : ZB} {Ea : ZB} {Ga : ZB} {Im0 : ZO} {Im1 : ZO} {a1 : Int} {r : Int × ZB × ZB} (h : fX_deedPlace N Ch a1 = some r) : zMi l yX11_deedPlace cX11_deedPlace 2 (some .boolean) zrX_deedPlace g [.ref (g.2.2 0), .int (zI a1)] (wX g X N T Rd Fr Ac Ch PS Ly Pa OT Ea Ga Im0 Im1) (wX g X r.2.1 T Rd Fr Ac r.2.2 PS Ly Pa OT Ea Ga Im0 Im1) (zI r.1) := by
  unfold fX_deedPlace at h
  refine zMi_q (own := RX11) rfl (by decide +kernel) (Nat.le_of_ble_eq_true rfl) (lv := [(0, .ref (g.2.2 0)), (1, .int (zI a1))]) rfl ⟨rfl, rfl⟩ ?_
  intro p e s m args below meth c A Q hQ cx
  refine z_aload_n cx d_X11_deedPlace_0 1 rfl rfl 0 rfl ?_
  refine z_iload_n cx d_X11_deedPlace_1 2 rfl rfl 1 rfl ?_
  refine y_callV_i (As := [.int (zI a1)]) (rest := []) (W := fun u_1 => wX g X N T Rd Fr Ac Ch PS Ly Pa OT Ea Ga Im0 Im1) (rf := fun u_1 => zI u_1) (rm := zrX_canBePlaced) cx (fun _ hq => tX_canBePlaced hq) d_X11_deedPlace_2 5 rfl kk_X11_canBePlaced q_800 q_802 q_14 rfl e_X rfl ⟨rfl, rfl⟩ ⟨Nat.le_of_ble_eq_true rfl, Nat.le_of_ble_eq_true rfl⟩ rfl rfl (Nat.le_of_ble_eq_true rfl) ⟨Nat.zero_le _, Nat.zero_le _⟩ h (fun u_1 h => ?_)
  refine kf1_f (P := fun (Ch_2 : ZB) => V p l e zrX_deedPlace s m args below meth c A s.heap g 2 Q (wX g X N T Rd Fr Ac Ch_2 PS Ly Pa OT Ea Ga Im0 Im1) 0 0 [] 19 []) h (fun Ch_2 h => ?_) (fun k_3 hk_3 h => ?_)
  · refine y_iconst cx d_X11_deedPlace_19 20 rfl ?_
    subst hQ
    obtain rfl := Option.some.inj h
    exact z_zret cx d_X11_deedPlace_20 (zb01 (by decide)) rfl rfl
  refine y_if_eq cx d_X11_deedPlace_5 8 rfl 19 (by decide) rfl h (fun h => ?_) (fun h => ?_)
  · refine z_sub [] rfl ?_
    exact hk_3 _ h
  · refine z_aload_n cx d_X11_deedPlace_8 9 rfl rfl 0 rfl ?_
    refine z_get cx d_X11_deedPlace_9 12 rfl e_X rfl zX11 4 (by decide) q_541 rfl rfl ?_
    refine z_iload_n cx d_X11_deedPlace_12 13 rfl rfl 1 rfl ?_
    refine y_callV_i (As := [.int (zI a1)]) (rest := []) (W := fun u_4 => wX g X N T Rd Fr Ac u_4.2 PS Ly Pa OT Ea Ga Im0 Im1) (rf := fun u_4 => zI u_4.1) (rm := zrCh_find) cx (fun _ hq => tCh_find hq) d_X11_deedPlace_13 16 rfl kk_X1_find q_804 q_805 q_806 rfl e_Ch rfl ⟨rfl, rfl⟩ ⟨Nat.le_of_ble_eq_true rfl, Nat.le_of_ble_eq_true rfl⟩ rfl rfl (Nat.le_of_ble_eq_true rfl) ⟨Nat.zero_le _, Nat.zero_le _⟩ h (fun u_4 h => ?_)
    refine y_if_ne cx d_X11_deedPlace_16 19 rfl 21 (by decide) rfl h (fun h => ?_) (fun h => ?_)
    · refine z_aload_n cx d_X11_deedPlace_21 22 rfl rfl 0 rfl ?_
      refine z_get cx d_X11_deedPlace_22 25 rfl e_X rfl zX11 4 (by decide) q_541 rfl rfl ?_
      refine y_callV_v (As := []) (rest := []) (W := fun u_5 => wX g X u_5 T Rd Fr Ac u_4.2 PS Ly Pa OT Ea Ga Im0 Im1) (rm := zr0) cx (fun _ hq => tCh_carryOut hq) d_X11_deedPlace_25 28 rfl kk_X1_carryOut q_827 q_828 q_829 rfl e_Ch rfl ⟨rfl, rfl⟩ ⟨Nat.le_of_ble_eq_true rfl, Nat.le_of_ble_eq_true rfl⟩ rfl rfl (Nat.le_of_ble_eq_true rfl) ⟨Nat.zero_le _, Nat.zero_le _⟩ h (fun u_5 h => ?_)
      refine y_iconst cx d_X11_deedPlace_28 29 rfl ?_
      subst hQ
      obtain rfl := Option.some.inj h
      exact z_zret cx d_X11_deedPlace_29 (zb01 (by decide)) rfl rfl
    · refine z_sub [] rfl ?_
      exact hk_3 _ h
def zrX_drawDeed : Room := { frames := 5, cells := 0, slots := 0, locals := 125 }
set_option maxHeartbeats 4000000 in
theorem tX_drawDeed {l : Launch} {g : ZG} {X : ZB} {N : ZB} {T : ZB} {Rd : ZB} {Fr : ZB} {Ac : ZA} {Ch : ZB} {PS : ZB} {Ly : ZB} {Pa : ZQ} {OT : ZB} {Ea : ZB} {Ga : ZB} {Im0 : ZO} {Im1 : ZO}  {r : Int × ZB × ZB × ZB} (h : fX_drawDeed X N Ch = some r) : zMi l yX11_drawDeed cX11_drawDeed 3 (some .boolean) zrX_drawDeed g [.ref (g.2.2 0)] (wX g X N T Rd Fr Ac Ch PS Ly Pa OT Ea Ga Im0 Im1) (wX g r.2.1 r.2.2.1 T Rd Fr Ac r.2.2.2 PS Ly Pa OT Ea Ga Im0 Im1) (zI r.1) := by
  unfold fX_drawDeed at h
  refine zMi_q (own := RX11) rfl (by decide +kernel) (Nat.le_of_ble_eq_true rfl) (lv := [(0, .ref (g.2.2 0))]) rfl ⟨rfl, rfl⟩ ?_
  intro p e s m args below meth c A Q hQ cx
  refine z_aload_n cx d_X11_drawDeed_0 1 rfl rfl 0 rfl ?_
  refine y_bipush cx d_X11_drawDeed_1 3 rfl (by decide) ?_
  refine y_callV_i (As := [.int (zI 6)]) (rest := []) (W := fun u_1 => wX g u_1.2 N T Rd Fr Ac Ch PS Ly Pa OT Ea Ga Im0 Im1) (rf := fun u_1 => zI u_1.1) (rm := zr0) cx (fun _ hq => tX_draw hq) d_X11_drawDeed_3 6 rfl kk_X11_draw q_1224 q_1226 q_39 rfl e_X rfl ⟨rfl, rfl⟩ ⟨Nat.le_of_ble_eq_true rfl, Nat.le_of_ble_eq_true rfl⟩ rfl rfl (Nat.le_of_ble_eq_true rfl) ⟨Nat.zero_le _, Nat.zero_le _⟩ h (fun u_1 h => ?_)
  refine y_istore_n cx d_X11_drawDeed_6 7 rfl rfl (by decide) (lv' := [(1, .int (zI u_1.1)), (0, .ref (g.2.2 0))]) rfl ?_
  refine z_aload_n cx d_X11_drawDeed_7 8 rfl rfl 1 rfl ?_
  refine z_aload_n cx d_X11_drawDeed_8 9 rfl rfl 1 rfl ?_
  refine z_get cx d_X11_drawDeed_9 12 rfl e_X rfl zX11 0 (by decide) q_537 rfl rfl ?_
  refine z_get cx d_X11_drawDeed_12 15 rfl e_N rfl zX5 5 (by decide) q_185 rfl rfl ?_
  refine y_callV_i (As := [.int (zI (N.1 5))]) (rest := []) (W := fun u_2 => wX g u_2.2 N T Rd Fr Ac Ch PS Ly Pa OT Ea Ga Im0 Im1) (rf := fun u_2 => zI u_2.1) (rm := zr0) cx (fun _ hq => tX_draw hq) d_X11_drawDeed_15 18 rfl kk_X11_draw q_1224 q_1226 q_39 rfl e_X rfl ⟨rfl, rfl⟩ ⟨Nat.le_of_ble_eq_true rfl, Nat.le_of_ble_eq_true rfl⟩ rfl rfl (Nat.le_of_ble_eq_true rfl) ⟨Nat.zero_le _, Nat.zero_le _⟩ h (fun u_2 h => ?_)
  refine y_istore_n cx d_X11_drawDeed_18 19 rfl rfl (by decide) (lv' := [(2, .int (zI u_2.1)), (1, .int (zI u_1.1)), (0, .ref (g.2.2 0))]) rfl ?_
  refine z_iload_n cx d_X11_drawDeed_19 20 rfl rfl 1 rfl ?_
  refine ite_c h (fun c_3 h => ?_) (fun c_3 h => ?_)
  · refine y_swIn cx d_X11_drawDeed_20 0 (Eq.trans rfl c_3) 56 (by decide) (by decide) rfl (by decide) ?_
    refine z_aload_n cx d_X11_drawDeed_56 57 rfl rfl 2 rfl ?_
    refine z_iload_n cx d_X11_drawDeed_57 58 rfl rfl 0 rfl ?_
    refine y_callV_i (As := [.int (zI u_2.1)]) (rest := []) (W := fun u_4 => wX g u_2.2 u_4.2.1 T Rd Fr Ac u_4.2.2 PS Ly Pa OT Ea Ga Im0 Im1) (rf := fun u_4 => zI u_4.1) (rm := zrX_deedPlace) cx (fun _ hq => tX_deedPlace hq) d_X11_drawDeed_58 61 rfl kk_X11_deedPlace q_1229 q_1231 q_40 rfl e_X rfl ⟨rfl, rfl⟩ ⟨Nat.le_of_ble_eq_true rfl, Nat.le_of_ble_eq_true rfl⟩ rfl rfl (Nat.le_of_ble_eq_true rfl) ⟨Nat.zero_le _, Nat.zero_le _⟩ h (fun u_4 h => ?_)
    obtain ⟨hz, h⟩ := zo_i h
    subst hQ
    obtain rfl := Option.some.inj h
    exact z_zret cx d_X11_drawDeed_61 (zb01 hz) rfl rfl
  · refine ite_c h (fun c_5 h => ?_) (fun c_5 h => ?_)
    · refine y_swIn cx d_X11_drawDeed_20 1 (Eq.trans rfl c_5) 56 (by decide) (by decide) rfl (by decide) ?_
      refine z_aload_n cx d_X11_drawDeed_56 57 rfl rfl 2 rfl ?_
      refine z_iload_n cx d_X11_drawDeed_57 58 rfl rfl 0 rfl ?_
      refine y_callV_i (As := [.int (zI u_2.1)]) (rest := []) (W := fun u_6 => wX g u_2.2 u_6.2.1 T Rd Fr Ac u_6.2.2 PS Ly Pa OT Ea Ga Im0 Im1) (rf := fun u_6 => zI u_6.1) (rm := zrX_deedPlace) cx (fun _ hq => tX_deedPlace hq) d_X11_drawDeed_58 61 rfl kk_X11_deedPlace q_1229 q_1231 q_40 rfl e_X rfl ⟨rfl, rfl⟩ ⟨Nat.le_of_ble_eq_true rfl, Nat.le_of_ble_eq_true rfl⟩ rfl rfl (Nat.le_of_ble_eq_true rfl) ⟨Nat.zero_le _, Nat.zero_le _⟩ h (fun u_6 h => ?_)
      obtain ⟨hz, h⟩ := zo_i h
      subst hQ
      obtain rfl := Option.some.inj h
      exact z_zret cx d_X11_drawDeed_61 (zb01 hz) rfl rfl
    · refine ite_c h (fun c_7 h => ?_) (fun c_7 h => ?_)
      · refine y_swIn cx d_X11_drawDeed_20 2 (Eq.trans rfl c_7) 62 (by decide) (by decide) rfl (by decide) ?_
        refine z_aload_n cx d_X11_drawDeed_62 63 rfl rfl 2 rfl ?_
        refine z_iload_n cx d_X11_drawDeed_63 64 rfl rfl 0 rfl ?_
        refine y_callV_i (As := [.int (zI u_2.1)]) (rest := []) (W := fun u_8 => wX g u_2.2 u_8.2 T Rd Fr Ac Ch PS Ly Pa OT Ea Ga Im0 Im1) (rf := fun u_8 => zI u_8.1) (rm := zr0) cx (fun _ hq => tX_deedLift hq) d_X11_drawDeed_64 67 rfl kk_X11_deedLift q_1233 q_1235 q_41 rfl e_X rfl ⟨rfl, rfl⟩ ⟨Nat.le_of_ble_eq_true rfl, Nat.le_of_ble_eq_true rfl⟩ rfl rfl (Nat.le_of_ble_eq_true rfl) ⟨Nat.zero_le _, Nat.zero_le _⟩ h (fun u_8 h => ?_)
        obtain ⟨hz, h⟩ := zo_i h
        subst hQ
        obtain rfl := Option.some.inj h
        exact z_zret cx d_X11_drawDeed_67 (zb01 hz) rfl rfl
      · refine ite_c h (fun c_9 h => ?_) (fun c_9 h => ?_)
        · refine y_swIn cx d_X11_drawDeed_20 3 (Eq.trans rfl c_9) 68 (by decide) (by decide) rfl (by decide) ?_
          refine z_aload_n cx d_X11_drawDeed_68 69 rfl rfl 2 rfl ?_
          refine z_iload_n cx d_X11_drawDeed_69 70 rfl rfl 0 rfl ?_
          refine y_callV_i (As := [.int (zI u_2.1)]) (rest := []) (W := fun u_10 => wX g u_2.2 u_10.2 T Rd Fr Ac Ch PS Ly Pa OT Ea Ga Im0 Im1) (rf := fun u_10 => zI u_10.1) (rm := zrX_deedBreakOrMend) cx (fun _ hq => tX_deedBreakOrMend hq) d_X11_drawDeed_70 73 rfl kk_X11_deedBreakOrMend q_1237 q_1239 q_42 rfl e_X rfl ⟨rfl, rfl⟩ ⟨Nat.le_of_ble_eq_true rfl, Nat.le_of_ble_eq_true rfl⟩ rfl rfl (Nat.le_of_ble_eq_true rfl) ⟨Nat.zero_le _, Nat.zero_le _⟩ h (fun u_10 h => ?_)
          obtain ⟨hz, h⟩ := zo_i h
          subst hQ
          obtain rfl := Option.some.inj h
          exact z_zret cx d_X11_drawDeed_73 (zb01 hz) rfl rfl
        · refine ite_c h (fun c_11 h => ?_) (fun c_11 h => ?_)
          · refine y_swIn cx d_X11_drawDeed_20 4 (Eq.trans rfl c_11) 74 (by decide) (by decide) rfl (by decide) ?_
            refine z_aload_n cx d_X11_drawDeed_74 75 rfl rfl 2 rfl ?_
            refine z_iload_n cx d_X11_drawDeed_75 76 rfl rfl 0 rfl ?_
            refine z_aload_n cx d_X11_drawDeed_76 77 rfl rfl 2 rfl ?_
            refine z_aload_n cx d_X11_drawDeed_77 78 rfl rfl 2 rfl ?_
            refine z_get cx d_X11_drawDeed_78 81 rfl e_X rfl zX11 0 (by decide) q_537 rfl rfl ?_
            refine z_get cx d_X11_drawDeed_81 84 rfl e_N rfl zX5 6 (by decide) q_191 rfl rfl ?_
            refine y_callV_i (As := [.int (zI (N.1 6))]) (rest := [.int (zI u_2.1), .ref (g.2.2 0)]) (W := fun u_12 => wX g u_12.2 N T Rd Fr Ac Ch PS Ly Pa OT Ea Ga Im0 Im1) (rf := fun u_12 => zI u_12.1) (rm := zr0) cx (fun _ hq => tX_draw hq) d_X11_drawDeed_84 87 rfl kk_X11_draw q_1224 q_1226 q_39 rfl e_X rfl ⟨rfl, rfl⟩ ⟨Nat.le_of_ble_eq_true rfl, Nat.le_of_ble_eq_true rfl⟩ rfl rfl (Nat.le_of_ble_eq_true rfl) ⟨Nat.zero_le _, Nat.zero_le _⟩ h (fun u_12 h => ?_)
            refine y_callV_i (As := [.int (zI u_2.1), .int (zI u_12.1)]) (rest := []) (W := fun u_13 => wX g u_12.2 u_13.2.1 T Rd Fr Ac u_13.2.2 PS Ly Pa OT Ea Ga Im0 Im1) (rf := fun u_13 => zI u_13.1) (rm := zrX_deedPut) cx (fun _ hq => tX_deedPut hq) d_X11_drawDeed_87 90 rfl kk_X11_deedPut q_1241 q_1243 q_43 rfl e_X rfl ⟨rfl, rfl⟩ ⟨Nat.le_of_ble_eq_true rfl, Nat.le_of_ble_eq_true rfl⟩ rfl rfl (Nat.le_of_ble_eq_true rfl) ⟨Nat.zero_le _, Nat.zero_le _⟩ h (fun u_13 h => ?_)
            obtain ⟨hz, h⟩ := zo_i h
            subst hQ
            obtain rfl := Option.some.inj h
            exact z_zret cx d_X11_drawDeed_90 (zb01 hz) rfl rfl
          · refine y_swOut cx d_X11_drawDeed_20 (by omega) 91 (by decide) ?_
            refine z_aload_n cx d_X11_drawDeed_91 92 rfl rfl 2 rfl ?_
            refine z_iload_n cx d_X11_drawDeed_92 93 rfl rfl 0 rfl ?_
            refine z_aload_n cx d_X11_drawDeed_93 94 rfl rfl 2 rfl ?_
            refine z_aload_n cx d_X11_drawDeed_94 95 rfl rfl 2 rfl ?_
            refine z_get cx d_X11_drawDeed_95 98 rfl e_X rfl zX11 0 (by decide) q_537 rfl rfl ?_
            refine z_get cx d_X11_drawDeed_98 101 rfl e_N rfl zX5 6 (by decide) q_191 rfl rfl ?_
            refine y_callV_i (As := [.int (zI (N.1 6))]) (rest := [.int (zI u_2.1), .ref (g.2.2 0)]) (W := fun u_14 => wX g u_14.2 N T Rd Fr Ac Ch PS Ly Pa OT Ea Ga Im0 Im1) (rf := fun u_14 => zI u_14.1) (rm := zr0) cx (fun _ hq => tX_draw hq) d_X11_drawDeed_101 104 rfl kk_X11_draw q_1224 q_1226 q_39 rfl e_X rfl ⟨rfl, rfl⟩ ⟨Nat.le_of_ble_eq_true rfl, Nat.le_of_ble_eq_true rfl⟩ rfl rfl (Nat.le_of_ble_eq_true rfl) ⟨Nat.zero_le _, Nat.zero_le _⟩ h (fun u_14 h => ?_)
            refine y_callV_i (As := [.int (zI u_2.1), .int (zI u_14.1)]) (rest := []) (W := fun u_15 => wX g u_14.2 u_15.2.1 T Rd Fr Ac u_15.2.2 PS Ly Pa OT Ea Ga Im0 Im1) (rf := fun u_15 => zI u_15.1) (rm := zrX_deedTrade) cx (fun _ hq => tX_deedTrade hq) d_X11_drawDeed_104 107 rfl kk_X11_deedTrade q_1245 q_1247 q_44 rfl e_X rfl ⟨rfl, rfl⟩ ⟨Nat.le_of_ble_eq_true rfl, Nat.le_of_ble_eq_true rfl⟩ rfl rfl (Nat.le_of_ble_eq_true rfl) ⟨Nat.zero_le _, Nat.zero_le _⟩ h (fun u_15 h => ?_)
            obtain ⟨hz, h⟩ := zo_i h
            subst hQ
            obtain rfl := Option.some.inj h
            exact z_zret cx d_X11_drawDeed_107 (zb01 hz) rfl rfl
def zrX_drawn : Room := { frames := 6, cells := 0, slots := 0, locals := 147 }
set_option maxHeartbeats 4000000 in
theorem tX_drawn {l : Launch} {g : ZG} {X : ZB} {N : ZB} {T : ZB} {Rd : ZB} {Fr : ZB} {Ac : ZA} {Ch : ZB} {PS : ZB} {Ly : ZB} {Pa : ZQ} {OT : ZB} {Ea : ZB} {Ga : ZB} {Im0 : ZO} {Im1 : ZO} {a1 : Int} {a2 : Int} {r : Int × ZB × ZB × ZA × ZB} (h : fX_drawn X N Ac Ch a1 a2 = some r) : zMi l yX11_drawn cX11_drawn 5 (some .int) zrX_drawn g [.ref (g.2.2 0), .int (zI a1), .int (zI a2)] (wX g X N T Rd Fr Ac Ch PS Ly Pa OT Ea Ga Im0 Im1) (wX g r.2.1 r.2.2.1 T Rd Fr r.2.2.2.1 r.2.2.2.2 PS Ly Pa OT Ea Ga Im0 Im1) (zI r.1) := by
  unfold fX_drawn at h
  refine zMi_q (own := RX11) rfl (by decide +kernel) (Nat.le_of_ble_eq_true rfl) (lv := [(0, .ref (g.2.2 0)), (1, .int (zI a1)), (2, .int (zI a2))]) rfl ⟨rfl, rfl⟩ ?_
  intro p e s m args below meth c A Q hQ cx
  refine z_iload_n cx d_X11_drawn_0 1 rfl rfl 1 rfl ?_
  refine y_iconst cx d_X11_drawn_1 2 rfl ?_
  refine kf0_f (P := V p l e zrX_drawn s m args below meth c A s.heap g 5 Q (wX g X N T Rd Fr Ac Ch PS Ly Pa OT Ea Ga Im0 Im1) 0 0 [] 11 []) h (fun h => ?_) (fun k_1 hk_1 h => ?_)
  · refine y_iconst cx d_X11_drawn_11 12 rfl ?_
    subst hQ
    obtain rfl := Option.some.inj h
    exact z_iret cx d_X11_drawn_12 rfl rfl
  refine y_icmp_lt cx d_X11_drawn_2 5 rfl 11 (by decide) rfl (nm_eq (x := 1) (by decide) (by decide)) h (fun h => ?_) (fun h => ?_)
  · refine z_sub [] rfl ?_
    exact hk_1  h
  · refine z_iload_n cx d_X11_drawn_5 6 rfl rfl 1 rfl ?_
    refine y_bipush cx d_X11_drawn_6 8 rfl (by decide) ?_
    refine y_icmp_le cx d_X11_drawn_8 11 rfl 13 (by decide) rfl (nm_eq (x := 60) (by decide) (by decide)) h (fun h => ?_) (fun h => ?_)
    · refine z_aload_n cx d_X11_drawn_13 14 rfl rfl 0 rfl ?_
      refine z_get cx d_X11_drawn_14 17 rfl e_X rfl zX11 0 (by decide) q_537 rfl rfl ?_
      refine z_get cx d_X11_drawn_17 20 rfl e_N rfl zX5 5 (by decide) q_185 rfl rfl ?_
      refine y_if_ne cx d_X11_drawn_20 23 rfl 25 (by decide) rfl h (fun h => ?_) (fun h => ?_)
      · refine z_aload_n cx d_X11_drawn_25 26 rfl rfl 0 rfl ?_
        refine z_iload_n cx d_X11_drawn_26 27 rfl rfl 2 rfl ?_
        refine y_put cx d_X11_drawn_27 30 rfl e_X rfl zX11 tyX11_ok nmX11 12 (by decide) q_549 rfl rfl rfl rfl (Nat.le_of_ble_eq_true rfl) h (fun _ h9 => s_X_12 h9) (fun X_2 h => ?_)
        refine z_aload_n cx d_X11_drawn_30 31 rfl rfl 0 rfl ?_
        refine z_get cx d_X11_drawn_31 34 rfl e_X rfl zX11 3 (by decide) q_540 rfl rfl ?_
        refine y_callV_v (As := []) (rest := []) (W := fun u_3 => wX g X_2 N T Rd Fr u_3 Ch PS Ly Pa OT Ea Ga Im0 Im1) (rm := zrAc_before) cx (fun _ hq => tAc_before hq) d_X11_drawn_34 37 rfl kk_X0_before q_711 q_712 q_713 rfl e_Ac rfl ⟨rfl, rfl⟩ ⟨Nat.le_of_ble_eq_true rfl, Nat.le_of_ble_eq_true rfl⟩ rfl rfl (Nat.le_of_ble_eq_true rfl) ⟨Nat.zero_le _, Nat.zero_le _⟩ h (fun u_3 h => ?_)
        refine y_iconst cx d_X11_drawn_37 38 rfl ?_
        refine y_istore_n cx d_X11_drawn_38 39 rfl rfl (by decide) (lv' := [(3, .int (zI 0)), (0, .ref (g.2.2 0)), (1, .int (zI a1)), (2, .int (zI a2))]) rfl ?_
        refine y_iconst cx d_X11_drawn_39 40 rfl ?_
        refine y_istore cx d_X11_drawn_40 42 rfl (by decide) (lv' := [(4, .int (zI 0)), (3, .int (zI 0)), (0, .ref (g.2.2 0)), (1, .int (zI a1)), (2, .int (zI a2))]) rfl ?_
        refine z_sub [2, 3, 1, 0] rfl ?_
        refine lop5_f (P := fun (v3_4 : Int) (v4_5 : Int) (X_6 : ZB) (N_7 : ZB) (Ch_8 : ZB) => V p l e zrX_drawn s m args below meth c A s.heap g 5 Q (wX g X_6 N_7 T Rd Fr u_3 Ch_8 PS Ly Pa OT Ea Ga Im0 Im1) 0 0 [(0, .ref (g.2.2 0)), (1, .int (zI a1)), (3, .int (zI v3_4)), (4, .int (zI v4_5))] 42 []) (fun rec_9 hrec_9 v3_4 v4_5 X_6 N_7 Ch_8 h => ?_) _ _ _ _ _ _ h
        refine z_iload cx d_X11_drawn_42 44 rfl 3 rfl ?_
        refine z_iload_n cx d_X11_drawn_44 45 rfl rfl 1 rfl ?_
        refine y_icmp_ge cx d_X11_drawn_45 48 rfl 64 (by decide) rfl rfl h (fun h => ?_) (fun h => ?_)
        · refine z_iload_n cx d_X11_drawn_64 65 rfl rfl 2 rfl ?_
          refine kf1_f (P := fun (Ac_10 : ZA) => V p l e zrX_drawn s m args below meth c A s.heap g 5 Q (wX g X_6 N_7 T Rd Fr Ac_10 Ch_8 PS Ly Pa OT Ea Ga Im0 Im1) 0 0 [(3, .int (zI v3_4))] 75 []) h (fun Ac_10 h => ?_) (fun k_11 hk_11 h => ?_)
          · refine z_iload_n cx d_X11_drawn_75 76 rfl rfl 0 rfl ?_
            subst hQ
            obtain rfl := Option.some.inj h
            exact z_iret cx d_X11_drawn_76 rfl rfl
          refine y_if_le cx d_X11_drawn_65 68 rfl 75 (by decide) rfl h (fun h => ?_) (fun h => ?_)
          · refine z_sub [2] rfl ?_
            exact hk_11 _ h
          · refine z_aload_n cx d_X11_drawn_68 69 rfl rfl 0 rfl ?_
            refine z_get cx d_X11_drawn_69 72 rfl e_X rfl zX11 3 (by decide) q_540 rfl rfl ?_
            refine y_callV_v (As := []) (rest := []) (W := fun u_12 => wX g X_6 N_7 T Rd Fr u_12 Ch_8 PS Ly Pa OT Ea Ga Im0 Im1) (rm := zr0) cx (fun _ hq => tAc_done hq) d_X11_drawn_72 75 rfl kk_X0_done q_716 q_717 q_718 rfl e_Ac rfl ⟨rfl, rfl⟩ ⟨Nat.le_of_ble_eq_true rfl, Nat.le_of_ble_eq_true rfl⟩ rfl rfl (Nat.le_of_ble_eq_true rfl) ⟨Nat.zero_le _, Nat.zero_le _⟩ h (fun u_12 h => ?_)
            refine z_sub [2] rfl ?_
            exact hk_11 _ h
        · refine z_aload_n cx d_X11_drawn_48 49 rfl rfl 0 rfl ?_
          refine y_callV_i (As := []) (rest := []) (W := fun u_13 => wX g u_13.2.1 u_13.2.2.1 T Rd Fr u_3 u_13.2.2.2 PS Ly Pa OT Ea Ga Im0 Im1) (rf := fun u_13 => zI u_13.1) (rm := zrX_drawDeed) cx (fun _ hq => tX_drawDeed hq) d_X11_drawn_49 52 rfl kk_X11_drawDeed q_1220 q_1222 q_38 rfl e_X rfl ⟨rfl, rfl⟩ ⟨Nat.le_of_ble_eq_true rfl, Nat.le_of_ble_eq_true rfl⟩ rfl rfl (Nat.le_of_ble_eq_true rfl) ⟨Nat.zero_le _, Nat.zero_le _⟩ h (fun u_13 h => ?_)
          refine kf1_f (P := fun (v3_14 : Int) => V p l e zrX_drawn s m args below meth c A s.heap g 5 Q (wX g u_13.2.1 u_13.2.2.1 T Rd Fr u_3 u_13.2.2.2 PS Ly Pa OT Ea Ga Im0 Im1) 0 0 [(0, .ref (g.2.2 0)), (1, .int (zI a1)), (3, .int (zI v3_14)), (4, .int (zI v4_5))] 58 []) h (fun v3_14 h => ?_) (fun k_15 hk_15 h => ?_)
          · refine y_iinc cx 3 d_X11_drawn_58 61 rfl rfl (by decide) (lv' := [(4, .int (zI (v4_5 + 1))), (0, .ref (g.2.2 0)), (1, .int (zI a1)), (3, .int (zI v3_14))]) rfl ?_
            refine z_goto cx d_X11_drawn_61 42 (by decide) ?_
            refine z_sub [1, 2, 3, 0] rfl ?_
            exact hrec_9 _ _ _ _ _ h
          refine y_if_eq cx d_X11_drawn_52 55 rfl 58 (by decide) rfl h (fun h => ?_) (fun h => ?_)
          · exact hk_15 _ h
          · refine y_iinc cx 2 d_X11_drawn_55 58 rfl rfl (by decide) (lv' := [(3, .int (zI (v3_4 + 1))), (0, .ref (g.2.2 0)), (1, .int (zI a1)), (4, .int (zI v4_5))]) rfl ?_
            refine z_sub [1, 2, 0, 3] rfl ?_
            exact hk_15 _ h
      · refine y_iconst cx d_X11_drawn_23 24 rfl ?_
        subst hQ
        obtain rfl := Option.some.inj h
        exact z_iret cx d_X11_drawn_24 rfl rfl
    · refine z_sub [] rfl ?_
      exact hk_1  h
