-- needs: 06.world 07.fun 09.dec1 09.dec2 09.dec3 09.dec4 10.vsmall 11.vsets 12.vways 13.vread
def zrX_feed : Room := { frames := 1, cells := 0, slots := 0, locals := 22 }
set_option maxHeartbeats 4000000 in
theorem tX_feed {l : Launch} {g : ZG} {X : ZB} {N : ZB} {T : ZB} {Rd : ZB} {Fr : ZB} {Ac : ZA} {Ch : ZB} {PS : ZB} {Ly : ZB} {Pa : ZQ} {OT : ZB} {Ea : ZB} {Ga : ZB} {Im0 : ZO} {Im1 : ZO} {a1 : Int} {a2 : Int} {a3 : Int} {a4 : Int} {a5 : Int} {r : Int × ZB} (h : fX_feed T a1 a2 a3 a4 a5 = some r) : zMi l yX11_feed cX11_feed 6 (some .int) zrX_feed g [.ref (g.2.2 0), .int (zI a1), .int (zI a2), .int (zI a3), .int (zI a4), .int (zI a5)] (wX g X N T Rd Fr Ac Ch PS Ly Pa OT Ea Ga Im0 Im1) (wX g X N r.2 Rd Fr Ac Ch PS Ly Pa OT Ea Ga Im0 Im1) (zI r.1) := by
  unfold fX_feed at h
  refine zMi_q (own := RX11) rfl (by decide +kernel) (Nat.le_of_ble_eq_true rfl) (lv := [(0, .ref (g.2.2 0)), (1, .int (zI a1)), (2, .int (zI a2)), (3, .int (zI a3)), (4, .int (zI a4)), (5, .int (zI a5))]) rfl ⟨rfl, rfl⟩ ?_
  intro p e s m args below meth c A Q hQ cx
  refine z_aload_n cx d_X11_feed_0 1 rfl rfl 0 rfl ?_
  refine z_get cx d_X11_feed_1 4 rfl e_X rfl zX11 1 (by decide) q_538 rfl rfl ?_
  refine y_callV_i (As := []) (rest := []) (W := fun u_1 => wX g X N T Rd Fr Ac Ch PS Ly Pa OT Ea Ga Im0 Im1) (rf := fun u_1 => zI u_1) (rm := zr0) cx (fun _ hq => tT_hasRoom hq) d_X11_feed_4 7 rfl kk_X10_hasRoom q_581 q_582 q_583 rfl e_T rfl ⟨rfl, rfl⟩ ⟨Nat.le_of_ble_eq_true rfl, Nat.le_of_ble_eq_true rfl⟩ rfl rfl (Nat.le_of_ble_eq_true rfl) ⟨Nat.zero_le _, Nat.zero_le _⟩ h (fun u_1 h => ?_)
  refine y_if_ne cx d_X11_feed_7 10 rfl 12 (by decide) rfl h (fun h => ?_) (fun h => ?_)
  · refine z_aload_n cx d_X11_feed_12 13 rfl rfl 0 rfl ?_
    refine z_get cx d_X11_feed_13 16 rfl e_X rfl zX11 1 (by decide) q_538 rfl rfl ?_
    refine z_iload_n cx d_X11_feed_16 17 rfl rfl 1 rfl ?_
    refine y_callV_v (As := [.int (zI a1)]) (rest := []) (W := fun u_2 => wX g X N u_2 Rd Fr Ac Ch PS Ly Pa OT Ea Ga Im0 Im1) (rm := zr0) cx (fun _ hq => tT_add hq) d_X11_feed_17 20 rfl kk_X10_add q_585 q_586 q_587 rfl e_T rfl ⟨rfl, rfl⟩ ⟨Nat.le_of_ble_eq_true rfl, Nat.le_of_ble_eq_true rfl⟩ rfl rfl (Nat.le_of_ble_eq_true rfl) ⟨Nat.zero_le _, Nat.zero_le _⟩ h (fun u_2 h => ?_)
    refine z_aload_n cx d_X11_feed_20 21 rfl rfl 0 rfl ?_
    refine z_get cx d_X11_feed_21 24 rfl e_X rfl zX11 1 (by decide) q_538 rfl rfl ?_
    refine z_iload_n cx d_X11_feed_24 25 rfl rfl 2 rfl ?_
    refine y_callV_v (As := [.int (zI a2)]) (rest := []) (W := fun u_3 => wX g X N u_3 Rd Fr Ac Ch PS Ly Pa OT Ea Ga Im0 Im1) (rm := zr0) cx (fun _ hq => tT_add hq) d_X11_feed_25 28 rfl kk_X10_add q_585 q_586 q_587 rfl e_T rfl ⟨rfl, rfl⟩ ⟨Nat.le_of_ble_eq_true rfl, Nat.le_of_ble_eq_true rfl⟩ rfl rfl (Nat.le_of_ble_eq_true rfl) ⟨Nat.zero_le _, Nat.zero_le _⟩ h (fun u_3 h => ?_)
    refine z_aload_n cx d_X11_feed_28 29 rfl rfl 0 rfl ?_
    refine z_get cx d_X11_feed_29 32 rfl e_X rfl zX11 1 (by decide) q_538 rfl rfl ?_
    refine z_iload_n cx d_X11_feed_32 33 rfl rfl 3 rfl ?_
    refine y_callV_v (As := [.int (zI a3)]) (rest := []) (W := fun u_4 => wX g X N u_4 Rd Fr Ac Ch PS Ly Pa OT Ea Ga Im0 Im1) (rm := zr0) cx (fun _ hq => tT_add hq) d_X11_feed_33 36 rfl kk_X10_add q_585 q_586 q_587 rfl e_T rfl ⟨rfl, rfl⟩ ⟨Nat.le_of_ble_eq_true rfl, Nat.le_of_ble_eq_true rfl⟩ rfl rfl (Nat.le_of_ble_eq_true rfl) ⟨Nat.zero_le _, Nat.zero_le _⟩ h (fun u_4 h => ?_)
    refine z_aload_n cx d_X11_feed_36 37 rfl rfl 0 rfl ?_
    refine z_get cx d_X11_feed_37 40 rfl e_X rfl zX11 1 (by decide) q_538 rfl rfl ?_
    refine z_iload cx d_X11_feed_40 42 rfl 4 rfl ?_
    refine y_callV_v (As := [.int (zI a4)]) (rest := []) (W := fun u_5 => wX g X N u_5 Rd Fr Ac Ch PS Ly Pa OT Ea Ga Im0 Im1) (rm := zr0) cx (fun _ hq => tT_add hq) d_X11_feed_42 45 rfl kk_X10_add q_585 q_586 q_587 rfl e_T rfl ⟨rfl, rfl⟩ ⟨Nat.le_of_ble_eq_true rfl, Nat.le_of_ble_eq_true rfl⟩ rfl rfl (Nat.le_of_ble_eq_true rfl) ⟨Nat.zero_le _, Nat.zero_le _⟩ h (fun u_5 h => ?_)
    refine z_aload_n cx d_X11_feed_45 46 rfl rfl 0 rfl ?_
    refine z_get cx d_X11_feed_46 49 rfl e_X rfl zX11 1 (by decide) q_538 rfl rfl ?_
    refine z_iload cx d_X11_feed_49 51 rfl 5 rfl ?_
    refine y_callV_v (As := [.int (zI a5)]) (rest := []) (W := fun u_6 => wX g X N u_6 Rd Fr Ac Ch PS Ly Pa OT Ea Ga Im0 Im1) (rm := zr0) cx (fun _ hq => tT_add hq) d_X11_feed_51 54 rfl kk_X10_add q_585 q_586 q_587 rfl e_T rfl ⟨rfl, rfl⟩ ⟨Nat.le_of_ble_eq_true rfl, Nat.le_of_ble_eq_true rfl⟩ rfl rfl (Nat.le_of_ble_eq_true rfl) ⟨Nat.zero_le _, Nat.zero_le _⟩ h (fun u_6 h => ?_)
    refine z_aload_n cx d_X11_feed_54 55 rfl rfl 0 rfl ?_
    refine z_get cx d_X11_feed_55 58 rfl e_X rfl zX11 1 (by decide) q_538 rfl rfl ?_
    refine y_callV_i (As := []) (rest := []) (W := fun u_7 => wX g X N u_6 Rd Fr Ac Ch PS Ly Pa OT Ea Ga Im0 Im1) (rf := fun u_7 => zI u_7) (rm := zr0) cx (fun _ hq => tT_size hq) d_X11_feed_58 61 rfl kk_X10_size q_589 q_590 q_591 rfl e_T rfl ⟨rfl, rfl⟩ ⟨Nat.le_of_ble_eq_true rfl, Nat.le_of_ble_eq_true rfl⟩ rfl rfl (Nat.le_of_ble_eq_true rfl) ⟨Nat.zero_le _, Nat.zero_le _⟩ h (fun u_7 h => ?_)
    subst hQ
    obtain rfl := Option.some.inj h
    exact z_iret cx d_X11_feed_61 rfl rfl
  · refine y_iconst cx d_X11_feed_10 11 rfl ?_
    subst hQ
    obtain rfl := Option.some.inj h
    exact z_iret cx d_X11_feed_11 rfl rfl
def zrX_end : Room := { frames := 1, cells := 0, slots := 0, locals := 21 }
set_option maxHeartbeats 4000000 in
theorem tX_end {l : Launch} {g : ZG} {X : ZB} {N : ZB} {T : ZB} {Rd : ZB} {Fr : ZB} {Ac : ZA} {Ch : ZB} {PS : ZB} {Ly : ZB} {Pa : ZQ} {OT : ZB} {Ea : ZB} {Ga : ZB} {Im0 : ZO} {Im1 : ZO} {a1 : Int} {r : Int × ZB} (h : fX_end T a1 = some r) : zMi l yX11_end cX11_end 2 (some .boolean) zrX_end g [.ref (g.2.2 0), .int (zI a1)] (wX g X N T Rd Fr Ac Ch PS Ly Pa OT Ea Ga Im0 Im1) (wX g X N r.2 Rd Fr Ac Ch PS Ly Pa OT Ea Ga Im0 Im1) (zI r.1) := by
  unfold fX_end at h
  refine zMi_q (own := RX11) rfl (by decide +kernel) (Nat.le_of_ble_eq_true rfl) (lv := [(0, .ref (g.2.2 0)), (1, .int (zI a1))]) rfl ⟨rfl, rfl⟩ ?_
  intro p e s m args below meth c A Q hQ cx
  refine z_iload_n cx d_X11_end_0 1 rfl rfl 1 rfl ?_
  refine kf0_f (P := V p l e zrX_end s m args below meth c A s.heap g 2 Q (wX g X N T Rd Fr Ac Ch PS Ly Pa OT Ea Ga Im0 Im1) 0 0 [] 15 []) h (fun h => ?_) (fun k_1 hk_1 h => ?_)
  · refine y_iconst cx d_X11_end_15 16 rfl ?_
    subst hQ
    obtain rfl := Option.some.inj h
    exact z_zret cx d_X11_end_16 (zb01 (by decide)) rfl rfl
  refine y_if_lt cx d_X11_end_1 4 rfl 15 (by decide) rfl h (fun h => ?_) (fun h => ?_)
  · refine z_sub [] rfl ?_
    exact hk_1  h
  · refine z_iload_n cx d_X11_end_4 5 rfl rfl 1 rfl ?_
    refine z_aload_n cx d_X11_end_5 6 rfl rfl 0 rfl ?_
    refine z_get cx d_X11_end_6 9 rfl e_X rfl zX11 1 (by decide) q_538 rfl rfl ?_
    refine y_callV_i (As := []) (rest := [.int (zI a1)]) (W := fun u_2 => wX g X N T Rd Fr Ac Ch PS Ly Pa OT Ea Ga Im0 Im1) (rf := fun u_2 => zI u_2) (rm := zr0) cx (fun _ hq => tT_size hq) d_X11_end_9 12 rfl kk_X10_size q_589 q_590 q_591 rfl e_T rfl ⟨rfl, rfl⟩ ⟨Nat.le_of_ble_eq_true rfl, Nat.le_of_ble_eq_true rfl⟩ rfl rfl (Nat.le_of_ble_eq_true rfl) ⟨Nat.zero_le _, Nat.zero_le _⟩ h (fun u_2 h => ?_)
    refine y_icmp_le cx d_X11_end_12 15 rfl 17 (by decide) rfl rfl h (fun h => ?_) (fun h => ?_)
    · refine z_aload_n cx d_X11_end_17 18 rfl rfl 0 rfl ?_
      refine z_get cx d_X11_end_18 21 rfl e_X rfl zX11 1 (by decide) q_538 rfl rfl ?_
      refine z_iload_n cx d_X11_end_21 22 rfl rfl 1 rfl ?_
      refine y_callV_v (As := [.int (zI a1)]) (rest := []) (W := fun u_3 => wX g X N u_3 Rd Fr Ac Ch PS Ly Pa OT Ea Ga Im0 Im1) (rm := zr0) cx (fun _ hq => tT_cut hq) d_X11_end_22 25 rfl kk_X10_cut q_597 q_598 q_599 rfl e_T rfl ⟨rfl, rfl⟩ ⟨Nat.le_of_ble_eq_true rfl, Nat.le_of_ble_eq_true rfl⟩ rfl rfl (Nat.le_of_ble_eq_true rfl) ⟨Nat.zero_le _, Nat.zero_le _⟩ h (fun u_3 h => ?_)
      refine y_iconst cx d_X11_end_25 26 rfl ?_
      subst hQ
      obtain rfl := Option.some.inj h
      exact z_zret cx d_X11_end_26 (zb01 (by decide)) rfl rfl
    · refine z_sub [] rfl ?_
      exact hk_1  h
def zrX_fault : Room := { frames := 1, cells := 0, slots := 0, locals := 20 }
set_option maxHeartbeats 4000000 in
theorem tX_fault {l : Launch} {g : ZG} {X : ZB} {N : ZB} {T : ZB} {Rd : ZB} {Fr : ZB} {Ac : ZA} {Ch : ZB} {PS : ZB} {Ly : ZB} {Pa : ZQ} {OT : ZB} {Ea : ZB} {Ga : ZB} {Im0 : ZO} {Im1 : ZO}  {r : Int} (h : fX_fault Rd = some r) : zMi l yX11_fault cX11_fault 1 (some .int) zrX_fault g [.ref (g.2.2 0)] (wX g X N T Rd Fr Ac Ch PS Ly Pa OT Ea Ga Im0 Im1) (wX g X N T Rd Fr Ac Ch PS Ly Pa OT Ea Ga Im0 Im1) (zI r) := by
  unfold fX_fault at h
  refine zMi_q (own := RX11) rfl (by decide +kernel) (Nat.le_of_ble_eq_true rfl) (lv := [(0, .ref (g.2.2 0))]) rfl ⟨rfl, rfl⟩ ?_
  intro p e s m args below meth c A Q hQ cx
  refine z_aload_n cx d_X11_fault_0 1 rfl rfl 0 rfl ?_
  refine z_get cx d_X11_fault_1 4 rfl e_X rfl zX11 2 (by decide) q_539 rfl rfl ?_
  refine y_callV_i (As := []) (rest := []) (W := fun u_1 => wX g X N T Rd Fr Ac Ch PS Ly Pa OT Ea Ga Im0 Im1) (rf := fun u_1 => zI u_1) (rm := zr0) cx (fun _ hq => tRd_faultKind hq) d_X11_fault_4 7 rfl kk_X9_faultKind q_703 q_704 q_705 rfl e_Rd rfl ⟨rfl, rfl⟩ ⟨Nat.le_of_ble_eq_true rfl, Nat.le_of_ble_eq_true rfl⟩ rfl rfl (Nat.le_of_ble_eq_true rfl) ⟨Nat.zero_le _, Nat.zero_le _⟩ h (fun u_1 h => ?_)
  subst hQ
  obtain rfl := Option.some.inj h
  exact z_iret cx d_X11_fault_7 rfl rfl
def zrX_forest : Room := { frames := 1, cells := 0, slots := 0, locals := 23 }
set_option maxHeartbeats 4000000 in
theorem tX_forest {l : Launch} {g : ZG} {X : ZB} {N : ZB} {T : ZB} {Rd : ZB} {Fr : ZB} {Ac : ZA} {Ch : ZB} {PS : ZB} {Ly : ZB} {Pa : ZQ} {OT : ZB} {Ea : ZB} {Ga : ZB} {Im0 : ZO} {Im1 : ZO} {a1 : Int} {r : Int} (h : fX_forest N a1 = some r) : zMi l yX11_forest cX11_forest 2 (some .int) zrX_forest g [.ref (g.2.2 0), .int (zI a1)] (wX g X N T Rd Fr Ac Ch PS Ly Pa OT Ea Ga Im0 Im1) (wX g X N T Rd Fr Ac Ch PS Ly Pa OT Ea Ga Im0 Im1) (zI r) := by
  unfold fX_forest at h
  refine zMi_q (own := RX11) rfl (by decide +kernel) (Nat.le_of_ble_eq_true rfl) (lv := [(0, .ref (g.2.2 0)), (1, .int (zI a1))]) rfl ⟨rfl, rfl⟩ ?_
  intro p e s m args below meth c A Q hQ cx
  refine z_aload_n cx d_X11_forest_0 1 rfl rfl 0 rfl ?_
  refine z_get cx d_X11_forest_1 4 rfl e_X rfl zX11 0 (by decide) q_537 rfl rfl ?_
  refine z_iload_n cx d_X11_forest_4 5 rfl rfl 1 rfl ?_
  refine y_callV_i (As := [.int (zI a1)]) (rest := []) (W := fun u_1 => wX g X N T Rd Fr Ac Ch PS Ly Pa OT Ea Ga Im0 Im1) (rf := fun u_1 => zI u_1) (rm := zr0) cx (fun _ hq => tN_hasForest hq) d_X11_forest_5 8 rfl kk_X5_hasForest q_724 q_725 q_726 rfl e_N rfl ⟨rfl, rfl⟩ ⟨Nat.le_of_ble_eq_true rfl, Nat.le_of_ble_eq_true rfl⟩ rfl rfl (Nat.le_of_ble_eq_true rfl) ⟨Nat.zero_le _, Nat.zero_le _⟩ h (fun u_1 h => ?_)
  refine kf1_f (P := fun (w0_2 : Int) => V p l e zrX_forest s m args below meth c A s.heap g 2 Q (wX g X N T Rd Fr Ac Ch PS Ly Pa OT Ea Ga Im0 Im1) 0 0 [] 23 [.int (zI w0_2)]) h (fun w0_2 h => ?_) (fun k_3 hk_3 h => ?_)
  · subst hQ
    obtain rfl := Option.some.inj h
    exact z_iret cx d_X11_forest_23 rfl rfl
  refine y_if_eq cx d_X11_forest_8 11 rfl 22 (by decide) rfl h (fun h => ?_) (fun h => ?_)
  · refine y_iconst cx d_X11_forest_22 23 rfl ?_
    refine z_sub [] rfl ?_
    exact hk_3 _ h
  · refine z_aload_n cx d_X11_forest_11 12 rfl rfl 0 rfl ?_
    refine z_get cx d_X11_forest_12 15 rfl e_X rfl zX11 0 (by decide) q_537 rfl rfl ?_
    refine z_iload_n cx d_X11_forest_15 16 rfl rfl 1 rfl ?_
    refine y_callV_i (As := [.int (zI a1)]) (rest := []) (W := fun u_4 => wX g X N T Rd Fr Ac Ch PS Ly Pa OT Ea Ga Im0 Im1) (rf := fun u_4 => zI u_4) (rm := zr0) cx (fun _ hq => tN_forestSet hq) d_X11_forest_16 19 rfl kk_X5_forestSet q_728 q_729 q_730 rfl e_N rfl ⟨rfl, rfl⟩ ⟨Nat.le_of_ble_eq_true rfl, Nat.le_of_ble_eq_true rfl⟩ rfl rfl (Nat.le_of_ble_eq_true rfl) ⟨Nat.zero_le _, Nat.zero_le _⟩ h (fun u_4 h => ?_)
    refine z_goto cx d_X11_forest_19 23 (by decide) ?_
    refine z_sub [] rfl ?_
    exact hk_3 _ h
def zrX_now : Room := { frames := 3, cells := 0, slots := 0, locals := 71 }
set_option maxHeartbeats 4000000 in
theorem tX_now {l : Launch} {g : ZG} {X : ZB} {N : ZB} {T : ZB} {Rd : ZB} {Fr : ZB} {Ac : ZA} {Ch : ZB} {PS : ZB} {Ly : ZB} {Pa : ZQ} {OT : ZB} {Ea : ZB} {Ga : ZB} {Im0 : ZO} {Im1 : ZO} {a1 : Int} {r : Int} (h : fX_now N T Ac a1 = some r) : zMi l yX11_now cX11_now 2 (some .int) zrX_now g [.ref (g.2.2 0), .int (zI a1)] (wX g X N T Rd Fr Ac Ch PS Ly Pa OT Ea Ga Im0 Im1) (wX g X N T Rd Fr Ac Ch PS Ly Pa OT Ea Ga Im0 Im1) (zI r) := by
  unfold fX_now at h
  refine zMi_q (own := RX11) rfl (by decide +kernel) (Nat.le_of_ble_eq_true rfl) (lv := [(0, .ref (g.2.2 0)), (1, .int (zI a1))]) rfl ⟨rfl, rfl⟩ ?_
  intro p e s m args below meth c A Q hQ cx
  refine z_iload_n cx d_X11_now_0 1 rfl rfl 1 rfl ?_
  refine ite_c h (fun c_1 h => ?_) (fun c_1 h => ?_)
  · refine y_swIn cx d_X11_now_1 0 (Eq.trans rfl c_1) 52 (by decide) (by decide) rfl (by decide) ?_
    refine z_aload_n cx d_X11_now_52 53 rfl rfl 0 rfl ?_
    refine z_get cx d_X11_now_53 56 rfl e_X rfl zX11 0 (by decide) q_537 rfl rfl ?_
    refine z_get cx d_X11_now_56 59 rfl e_N rfl zX5 4 (by decide) q_178 rfl rfl ?_
    subst hQ
    obtain rfl := Option.some.inj h
    exact z_iret cx d_X11_now_59 rfl rfl
  · refine ite_c h (fun c_2 h => ?_) (fun c_2 h => ?_)
    · refine y_swIn cx d_X11_now_1 1 (Eq.trans rfl c_2) 60 (by decide) (by decide) rfl (by decide) ?_
      refine z_aload_n cx d_X11_now_60 61 rfl rfl 0 rfl ?_
      refine z_get cx d_X11_now_61 64 rfl e_X rfl zX11 0 (by decide) q_537 rfl rfl ?_
      refine z_get cx d_X11_now_64 67 rfl e_N rfl zX5 5 (by decide) q_185 rfl rfl ?_
      subst hQ
      obtain rfl := Option.some.inj h
      exact z_iret cx d_X11_now_67 rfl rfl
    · refine ite_c h (fun c_3 h => ?_) (fun c_3 h => ?_)
      · refine y_swIn cx d_X11_now_1 2 (Eq.trans rfl c_3) 68 (by decide) (by decide) rfl (by decide) ?_
        refine z_aload_n cx d_X11_now_68 69 rfl rfl 0 rfl ?_
        refine z_get cx d_X11_now_69 72 rfl e_X rfl zX11 0 (by decide) q_537 rfl rfl ?_
        refine z_get cx d_X11_now_72 75 rfl e_N rfl zX5 6 (by decide) q_191 rfl rfl ?_
        subst hQ
        obtain rfl := Option.some.inj h
        exact z_iret cx d_X11_now_75 rfl rfl
      · refine ite_c h (fun c_4 h => ?_) (fun c_4 h => ?_)
        · refine y_swIn cx d_X11_now_1 3 (Eq.trans rfl c_4) 76 (by decide) (by decide) rfl (by decide) ?_
          refine z_aload_n cx d_X11_now_76 77 rfl rfl 0 rfl ?_
          refine z_get cx d_X11_now_77 80 rfl e_X rfl zX11 0 (by decide) q_537 rfl rfl ?_
          refine y_callV_i (As := []) (rest := []) (W := fun u_5 => wX g X N T Rd Fr Ac Ch PS Ly Pa OT Ea Ga Im0 Im1) (rf := fun u_5 => zI u_5) (rm := zr0) cx (fun _ hq => tN_soundSet hq) d_X11_now_80 83 rfl kk_X5_soundSet q_736 q_737 q_738 rfl e_N rfl ⟨rfl, rfl⟩ ⟨Nat.le_of_ble_eq_true rfl, Nat.le_of_ble_eq_true rfl⟩ rfl rfl (Nat.le_of_ble_eq_true rfl) ⟨Nat.zero_le _, Nat.zero_le _⟩ h (fun u_5 h => ?_)
          refine y_callS_i (As := [.int (zI u_5)]) (rest := []) (W := fun u_6 => wX g X N T Rd Fr Ac Ch PS Ly Pa OT Ea Ga Im0 Im1) (rf := fun u_6 => zI u_6) (rm := zr0) cx (fun _ hq => tJI_bitCount hq) d_X11_now_83 86 rfl kk_B_bitCount q_740 q_741 ⟨rfl, rfl⟩ ⟨Nat.le_of_ble_eq_true rfl, Nat.le_of_ble_eq_true rfl⟩ rfl rfl (Nat.le_of_ble_eq_true rfl) ⟨Nat.zero_le _, Nat.zero_le _⟩ h (fun u_6 h => ?_)
          subst hQ
          obtain rfl := Option.some.inj h
          exact z_iret cx d_X11_now_86 rfl rfl
        · refine ite_c h (fun c_7 h => ?_) (fun c_7 h => ?_)
          · refine y_swIn cx d_X11_now_1 4 (Eq.trans rfl c_7) 87 (by decide) (by decide) rfl (by decide) ?_
            refine z_aload_n cx d_X11_now_87 88 rfl rfl 0 rfl ?_
            refine z_get cx d_X11_now_88 91 rfl e_X rfl zX11 0 (by decide) q_537 rfl rfl ?_
            refine y_callV_i (As := []) (rest := []) (W := fun u_8 => wX g X N T Rd Fr Ac Ch PS Ly Pa OT Ea Ga Im0 Im1) (rf := fun u_8 => zI u_8) (rm := zrN_packed) cx (fun _ hq => tN_packed hq) d_X11_now_91 94 rfl kk_X5_packed q_746 q_747 q_748 rfl e_N rfl ⟨rfl, rfl⟩ ⟨Nat.le_of_ble_eq_true rfl, Nat.le_of_ble_eq_true rfl⟩ rfl rfl (Nat.le_of_ble_eq_true rfl) ⟨Nat.zero_le _, Nat.zero_le _⟩ h (fun u_8 h => ?_)
            subst hQ
            obtain rfl := Option.some.inj h
            exact z_iret cx d_X11_now_94 rfl rfl
          · refine ite_c h (fun c_9 h => ?_) (fun c_9 h => ?_)
            · refine y_swIn cx d_X11_now_1 5 (Eq.trans rfl c_9) 95 (by decide) (by decide) rfl (by decide) ?_
              refine z_aload_n cx d_X11_now_95 96 rfl rfl 0 rfl ?_
              refine z_get cx d_X11_now_96 99 rfl e_X rfl zX11 0 (by decide) q_537 rfl rfl ?_
              refine z_aload_n cx d_X11_now_99 100 rfl rfl 0 rfl ?_
              refine z_get cx d_X11_now_100 103 rfl e_X rfl zX11 0 (by decide) q_537 rfl rfl ?_
              refine y_callV_i (As := []) (rest := [.ref (g.2.2 1)]) (W := fun u_10 => wX g X N T Rd Fr Ac Ch PS Ly Pa OT Ea Ga Im0 Im1) (rf := fun u_10 => zI u_10) (rm := zr0) cx (fun _ hq => tN_soundSet hq) d_X11_now_103 106 rfl kk_X5_soundSet q_736 q_737 q_738 rfl e_N rfl ⟨rfl, rfl⟩ ⟨Nat.le_of_ble_eq_true rfl, Nat.le_of_ble_eq_true rfl⟩ rfl rfl (Nat.le_of_ble_eq_true rfl) ⟨Nat.zero_le _, Nat.zero_le _⟩ h (fun u_10 h => ?_)
              refine y_callV_i (As := [.int (zI u_10)]) (rest := []) (W := fun u_11 => wX g X N T Rd Fr Ac Ch PS Ly Pa OT Ea Ga Im0 Im1) (rf := fun u_11 => zI u_11) (rm := zrN_pieces) cx (fun _ hq => tN_pieces hq) d_X11_now_106 109 rfl kk_X5_pieces q_752 q_753 q_754 rfl e_N rfl ⟨rfl, rfl⟩ ⟨Nat.le_of_ble_eq_true rfl, Nat.le_of_ble_eq_true rfl⟩ rfl rfl (Nat.le_of_ble_eq_true rfl) ⟨Nat.zero_le _, Nat.zero_le _⟩ h (fun u_11 h => ?_)
              subst hQ
              obtain rfl := Option.some.inj h
              exact z_iret cx d_X11_now_109 rfl rfl
            · refine ite_c h (fun c_12 h => ?_) (fun c_12 h => ?_)
              · refine y_swIn cx d_X11_now_1 6 (Eq.trans rfl c_12) 110 (by decide) (by decide) rfl (by decide) ?_
                refine z_aload_n cx d_X11_now_110 111 rfl rfl 0 rfl ?_
                refine z_get cx d_X11_now_111 114 rfl e_X rfl zX11 0 (by decide) q_537 rfl rfl ?_
                refine z_aload_n cx d_X11_now_114 115 rfl rfl 0 rfl ?_
                refine z_get cx d_X11_now_115 118 rfl e_X rfl zX11 0 (by decide) q_537 rfl rfl ?_
                refine y_iconst cx d_X11_now_118 119 rfl ?_
                refine y_callV_i (As := [.int (zI 0)]) (rest := [.ref (g.2.2 1)]) (W := fun u_13 => wX g X N T Rd Fr Ac Ch PS Ly Pa OT Ea Ga Im0 Im1) (rf := fun u_13 => zI u_13) (rm := zr0) cx (fun _ hq => tN_forestSet hq) d_X11_now_119 122 rfl kk_X5_forestSet q_728 q_729 q_730 rfl e_N rfl ⟨rfl, rfl⟩ ⟨Nat.le_of_ble_eq_true rfl, Nat.le_of_ble_eq_true rfl⟩ rfl rfl (Nat.le_of_ble_eq_true rfl) ⟨Nat.zero_le _, Nat.zero_le _⟩ h (fun u_13 h => ?_)
                refine y_callV_i (As := [.int (zI u_13)]) (rest := []) (W := fun u_14 => wX g X N T Rd Fr Ac Ch PS Ly Pa OT Ea Ga Im0 Im1) (rf := fun u_14 => zI u_14) (rm := zrN_pieces) cx (fun _ hq => tN_pieces hq) d_X11_now_122 125 rfl kk_X5_pieces q_752 q_753 q_754 rfl e_N rfl ⟨rfl, rfl⟩ ⟨Nat.le_of_ble_eq_true rfl, Nat.le_of_ble_eq_true rfl⟩ rfl rfl (Nat.le_of_ble_eq_true rfl) ⟨Nat.zero_le _, Nat.zero_le _⟩ h (fun u_14 h => ?_)
                subst hQ
                obtain rfl := Option.some.inj h
                exact z_iret cx d_X11_now_125 rfl rfl
              · refine ite_c h (fun c_15 h => ?_) (fun c_15 h => ?_)
                · refine y_swIn cx d_X11_now_1 7 (Eq.trans rfl c_15) 126 (by decide) (by decide) rfl (by decide) ?_
                  refine z_aload_n cx d_X11_now_126 127 rfl rfl 0 rfl ?_
                  refine z_get cx d_X11_now_127 130 rfl e_X rfl zX11 3 (by decide) q_540 rfl rfl ?_
                  refine y_callV_i (As := []) (rest := []) (W := fun u_16 => wX g X N T Rd Fr Ac Ch PS Ly Pa OT Ea Ga Im0 Im1) (rf := fun u_16 => zI u_16) (rm := zr0) cx (fun _ hq => tAc_count hq) d_X11_now_130 133 rfl kk_X0_count q_764 q_765 q_766 rfl e_Ac rfl ⟨rfl, rfl⟩ ⟨Nat.le_of_ble_eq_true rfl, Nat.le_of_ble_eq_true rfl⟩ rfl rfl (Nat.le_of_ble_eq_true rfl) ⟨Nat.zero_le _, Nat.zero_le _⟩ h (fun u_16 h => ?_)
                  subst hQ
                  obtain rfl := Option.some.inj h
                  exact z_iret cx d_X11_now_133 rfl rfl
                · refine ite_c h (fun c_17 h => ?_) (fun c_17 h => ?_)
                  · refine y_swIn cx d_X11_now_1 8 (Eq.trans rfl c_17) 134 (by decide) (by decide) rfl (by decide) ?_
                    refine z_aload_n cx d_X11_now_134 135 rfl rfl 0 rfl ?_
                    refine z_get cx d_X11_now_135 138 rfl e_X rfl zX11 1 (by decide) q_538 rfl rfl ?_
                    refine y_callV_i (As := []) (rest := []) (W := fun u_18 => wX g X N T Rd Fr Ac Ch PS Ly Pa OT Ea Ga Im0 Im1) (rf := fun u_18 => zI u_18) (rm := zr0) cx (fun _ hq => tT_size hq) d_X11_now_138 141 rfl kk_X10_size q_589 q_590 q_591 rfl e_T rfl ⟨rfl, rfl⟩ ⟨Nat.le_of_ble_eq_true rfl, Nat.le_of_ble_eq_true rfl⟩ rfl rfl (Nat.le_of_ble_eq_true rfl) ⟨Nat.zero_le _, Nat.zero_le _⟩ h (fun u_18 h => ?_)
                    subst hQ
                    obtain rfl := Option.some.inj h
                    exact z_iret cx d_X11_now_141 rfl rfl
                  · refine y_swOut cx d_X11_now_1 (by omega) 142 (by decide) ?_
                    refine y_iconst cx d_X11_now_142 143 rfl ?_
                    subst hQ
                    obtain rfl := Option.some.inj h
                    exact z_iret cx d_X11_now_143 rfl rfl
def zrX_whyNotPut : Room := { frames := 2, cells := 0, slots := 0, locals := 54 }
set_option maxHeartbeats 4000000 in
theorem tX_whyNotPut {l : Launch} {g : ZG} {X : ZB} {N : ZB} {T : ZB} {Rd : ZB} {Fr : ZB} {Ac : ZA} {Ch : ZB} {PS : ZB} {Ly : ZB} {Pa : ZQ} {OT : ZB} {Ea : ZB} {Ga : ZB} {Im0 : ZO} {Im1 : ZO} {a1 : Int} {a2 : Int} {r : Int × ZB} (h : fX_whyNotPut N Ch a1 a2 = some r) : zMi l yX11_whyNotPut cX11_whyNotPut 3 (some .int) zrX_whyNotPut g [.ref (g.2.2 0), .int (zI a1), .int (zI a2)] (wX g X N T Rd Fr Ac Ch PS Ly Pa OT Ea Ga Im0 Im1) (wX g X N T Rd Fr Ac r.2 PS Ly Pa OT Ea Ga Im0 Im1) (zI r.1) := by
  unfold fX_whyNotPut at h
  refine zMi_q (own := RX11) rfl (by decide +kernel) (Nat.le_of_ble_eq_true rfl) (lv := [(0, .ref (g.2.2 0)), (1, .int (zI a1)), (2, .int (zI a2))]) rfl ⟨rfl, rfl⟩ ?_
  intro p e s m args below meth c A Q hQ cx
  refine z_aload_n cx d_X11_whyNotPut_0 1 rfl rfl 0 rfl ?_
  refine z_get cx d_X11_whyNotPut_1 4 rfl e_X rfl zX11 0 (by decide) q_537 rfl rfl ?_
  refine z_iload_n cx d_X11_whyNotPut_4 5 rfl rfl 1 rfl ?_
  refine y_callV_i (As := [.int (zI a1)]) (rest := []) (W := fun u_1 => wX g X N T Rd Fr Ac Ch PS Ly Pa OT Ea Ga Im0 Im1) (rf := fun u_1 => zI u_1) (rm := zr0) cx (fun _ hq => tN_isSound hq) d_X11_whyNotPut_5 8 rfl kk_X5_isSound q_780 q_781 q_782 rfl e_N rfl ⟨rfl, rfl⟩ ⟨Nat.le_of_ble_eq_true rfl, Nat.le_of_ble_eq_true rfl⟩ rfl rfl (Nat.le_of_ble_eq_true rfl) ⟨Nat.zero_le _, Nat.zero_le _⟩ h (fun u_1 h => ?_)
  refine y_if_ne cx d_X11_whyNotPut_8 11 rfl 13 (by decide) rfl h (fun h => ?_) (fun h => ?_)
  · refine z_aload_n cx d_X11_whyNotPut_13 14 rfl rfl 0 rfl ?_
    refine z_get cx d_X11_whyNotPut_14 17 rfl e_X rfl zX11 0 (by decide) q_537 rfl rfl ?_
    refine z_get cx d_X11_whyNotPut_17 20 rfl e_N rfl zX5 3 (by decide) q_168 rfl rfl ?_
    refine z_iload_n cx d_X11_whyNotPut_20 21 rfl rfl 1 rfl ?_
    refine y_ialdx cx d_X11_whyNotPut_21 22 rfl e_N_home (by decide) h (fun x_2 h => ?_)
    refine y_iconst cx d_X11_whyNotPut_22 23 rfl ?_
    refine y_icmp_eq cx d_X11_whyNotPut_23 26 rfl 28 (by decide) rfl (nm_eq (x := (-1)) (by decide) (by decide)) h (fun h => ?_) (fun h => ?_)
    · refine z_aload_n cx d_X11_whyNotPut_28 29 rfl rfl 0 rfl ?_
      refine z_get cx d_X11_whyNotPut_29 32 rfl e_X rfl zX11 4 (by decide) q_541 rfl rfl ?_
      refine z_iload_n cx d_X11_whyNotPut_32 33 rfl rfl 1 rfl ?_
      refine z_iload_n cx d_X11_whyNotPut_33 34 rfl rfl 2 rfl ?_
      refine y_callV_i (As := [.int (zI a1), .int (zI a2)]) (rest := []) (W := fun u_3 => wX g X N T Rd Fr Ac u_3.2 PS Ly Pa OT Ea Ga Im0 Im1) (rf := fun u_3 => zI u_3.1) (rm := zrCh_ringOf) cx (fun _ hq => tCh_ringOf hq) d_X11_whyNotPut_34 37 rfl kk_X1_ringOf q_784 q_785 q_786 rfl e_Ch rfl ⟨rfl, rfl⟩ ⟨Nat.le_of_ble_eq_true rfl, Nat.le_of_ble_eq_true rfl⟩ rfl rfl (Nat.le_of_ble_eq_true rfl) ⟨Nat.zero_le _, Nat.zero_le _⟩ h (fun u_3 h => ?_)
      refine kf1_f (P := fun (w0_4 : Int) => V p l e zrX_whyNotPut s m args below meth c A s.heap g 3 Q (wX g X N T Rd Fr Ac u_3.2 PS Ly Pa OT Ea Ga Im0 Im1) 0 0 [] 45 [.int (zI w0_4)]) h (fun w0_4 h => ?_) (fun k_5 hk_5 h => ?_)
      · subst hQ
        obtain rfl := Option.some.inj h
        exact z_iret cx d_X11_whyNotPut_45 rfl rfl
      refine y_if_eq cx d_X11_whyNotPut_37 40 rfl 44 (by decide) rfl h (fun h => ?_) (fun h => ?_)
      · refine y_iconst cx d_X11_whyNotPut_44 45 rfl ?_
        refine z_sub [] rfl ?_
        exact hk_5 _ h
      · refine y_iconst cx d_X11_whyNotPut_40 41 rfl ?_
        refine z_goto cx d_X11_whyNotPut_41 45 (by decide) ?_
        refine z_sub [] rfl ?_
        exact hk_5 _ h
    · refine y_iconst cx d_X11_whyNotPut_26 27 rfl ?_
      subst hQ
      obtain rfl := Option.some.inj h
      exact z_iret cx d_X11_whyNotPut_27 rfl rfl
  · refine y_iconst cx d_X11_whyNotPut_11 12 rfl ?_
    subst hQ
    obtain rfl := Option.some.inj h
    exact z_iret cx d_X11_whyNotPut_12 rfl rfl
def zrX_canBePlaced : Room := { frames := 1, cells := 0, slots := 0, locals := 21 }
set_option maxHeartbeats 4000000 in
theorem tX_canBePlaced {l : Launch} {g : ZG} {X : ZB} {N : ZB} {T : ZB} {Rd : ZB} {Fr : ZB} {Ac : ZA} {Ch : ZB} {PS : ZB} {Ly : ZB} {Pa : ZQ} {OT : ZB} {Ea : ZB} {Ga : ZB} {Im0 : ZO} {Im1 : ZO} {a1 : Int} {r : Int} (h : fX_canBePlaced N a1 = some r) : zMi l yX11_canBePlaced cX11_canBePlaced 2 (some .boolean) zrX_canBePlaced g [.ref (g.2.2 0), .int (zI a1)] (wX g X N T Rd Fr Ac Ch PS Ly Pa OT Ea Ga Im0 Im1) (wX g X N T Rd Fr Ac Ch PS Ly Pa OT Ea Ga Im0 Im1) (zI r) := by
  unfold fX_canBePlaced at h
  refine zMi_q (own := RX11) rfl (by decide +kernel) (Nat.le_of_ble_eq_true rfl) (lv := [(0, .ref (g.2.2 0)), (1, .int (zI a1))]) rfl ⟨rfl, rfl⟩ ?_
  intro p e s m args below meth c A Q hQ cx
  refine z_aload_n cx d_X11_canBePlaced_0 1 rfl rfl 0 rfl ?_
  refine z_get cx d_X11_canBePlaced_1 4 rfl e_X rfl zX11 0 (by decide) q_537 rfl rfl ?_
  refine z_iload_n cx d_X11_canBePlaced_4 5 rfl rfl 1 rfl ?_
  refine y_callV_i (As := [.int (zI a1)]) (rest := []) (W := fun u_1 => wX g X N T Rd Fr Ac Ch PS Ly Pa OT Ea Ga Im0 Im1) (rf := fun u_1 => zI u_1) (rm := zr0) cx (fun _ hq => tN_hasLine hq) d_X11_canBePlaced_5 8 rfl kk_X5_hasLine q_772 q_773 q_774 rfl e_N rfl ⟨rfl, rfl⟩ ⟨Nat.le_of_ble_eq_true rfl, Nat.le_of_ble_eq_true rfl⟩ rfl rfl (Nat.le_of_ble_eq_true rfl) ⟨Nat.zero_le _, Nat.zero_le _⟩ h (fun u_1 h => ?_)
  refine kf1_f (P := fun (w0_2 : Int) => V p l e zrX_canBePlaced s m args below meth c A s.heap g 2 Q (wX g X N T Rd Fr Ac Ch PS Ly Pa OT Ea Ga Im0 Im1) 0 0 [] 40 [.int (zI w0_2)]) h (fun w0_2 h => ?_) (fun k_3 hk_3 h => ?_)
  · obtain ⟨hz, h⟩ := zo_i h
    subst hQ
    obtain rfl := Option.some.inj h
    exact z_zret cx d_X11_canBePlaced_40 (zb01 hz) rfl rfl
  refine kf0_f (P := V p l e zrX_canBePlaced s m args below meth c A s.heap g 2 Q (wX g X N T Rd Fr Ac Ch PS Ly Pa OT Ea Ga Im0 Im1) 0 0 [] 39 []) h (fun h => ?_) (fun k_4 hk_4 h => ?_)
  · refine y_iconst cx d_X11_canBePlaced_39 40 rfl ?_
    exact hk_3 _ h
  refine y_if_eq cx d_X11_canBePlaced_8 11 rfl 39 (by decide) rfl h (fun h => ?_) (fun h => ?_)
  · refine z_sub [] rfl ?_
    exact hk_4  h
  · refine z_aload_n cx d_X11_canBePlaced_11 12 rfl rfl 0 rfl ?_
    refine z_get cx d_X11_canBePlaced_12 15 rfl e_X rfl zX11 0 (by decide) q_537 rfl rfl ?_
    refine z_iload_n cx d_X11_canBePlaced_15 16 rfl rfl 1 rfl ?_
    refine y_callV_i (As := [.int (zI a1)]) (rest := []) (W := fun u_5 => wX g X N T Rd Fr Ac Ch PS Ly Pa OT Ea Ga Im0 Im1) (rf := fun u_5 => zI u_5) (rm := zr0) cx (fun _ hq => tN_isSound hq) d_X11_canBePlaced_16 19 rfl kk_X5_isSound q_780 q_781 q_782 rfl e_N rfl ⟨rfl, rfl⟩ ⟨Nat.le_of_ble_eq_true rfl, Nat.le_of_ble_eq_true rfl⟩ rfl rfl (Nat.le_of_ble_eq_true rfl) ⟨Nat.zero_le _, Nat.zero_le _⟩ h (fun u_5 h => ?_)
    refine y_if_eq cx d_X11_canBePlaced_19 22 rfl 39 (by decide) rfl h (fun h => ?_) (fun h => ?_)
    · refine z_sub [] rfl ?_
      exact hk_4  h
    · refine z_aload_n cx d_X11_canBePlaced_22 23 rfl rfl 0 rfl ?_
      refine z_get cx d_X11_canBePlaced_23 26 rfl e_X rfl zX11 0 (by decide) q_537 rfl rfl ?_
      refine z_get cx d_X11_canBePlaced_26 29 rfl e_N rfl zX5 3 (by decide) q_168 rfl rfl ?_
      refine z_iload_n cx d_X11_canBePlaced_29 30 rfl rfl 1 rfl ?_
      refine y_ialdx cx d_X11_canBePlaced_30 31 rfl e_N_home (by decide) h (fun x_6 h => ?_)
      refine y_iconst cx d_X11_canBePlaced_31 32 rfl ?_
      refine y_icmp_ne cx d_X11_canBePlaced_32 35 rfl 39 (by decide) rfl (nm_eq (x := (-1)) (by decide) (by decide)) h (fun h => ?_) (fun h => ?_)
      · refine z_sub [] rfl ?_
        exact hk_4  h
      · refine y_iconst cx d_X11_canBePlaced_35 36 rfl ?_
        refine z_goto cx d_X11_canBePlaced_36 40 (by decide) ?_
        refine z_sub [] rfl ?_
        exact hk_3 _ h
def zrX_chain : Room := { frames := 4, cells := 0, slots := 0, locals := 104 }
set_option maxHeartbeats 4000000 in
theorem tX_chain {l : Launch} {g : ZG} {X : ZB} {N : ZB} {T : ZB} {Rd : ZB} {Fr : ZB} {Ac : ZA} {Ch : ZB} {PS : ZB} {Ly : ZB} {Pa : ZQ} {OT : ZB} {Ea : ZB} {Ga : ZB} {Im0 : ZO} {Im1 : ZO} {a1 : Int} {r : Int × ZB} (h : fX_chain N Ch a1 = some r) : zMi l yX11_chain cX11_chain 3 (some .int) zrX_chain g [.ref (g.2.2 0), .int (zI a1)] (wX g X N T Rd Fr Ac Ch PS Ly Pa OT Ea Ga Im0 Im1) (wX g X N T Rd Fr Ac r.2 PS Ly Pa OT Ea Ga Im0 Im1) (zI r.1) := by
  unfold fX_chain at h
  refine zMi_q (own := RX11) rfl (by decide +kernel) (Nat.le_of_ble_eq_true rfl) (lv := [(0, .ref (g.2.2 0)), (1, .int (zI a1))]) rfl ⟨rfl, rfl⟩ ?_
  intro p e s m args below meth c A Q hQ cx
  refine z_aload_n cx d_X11_chain_0 1 rfl rfl 0 rfl ?_
  refine z_iload_n cx d_X11_chain_1 2 rfl rfl 1 rfl ?_
  refine y_callV_i (As := [.int (zI a1)]) (rest := []) (W := fun u_1 => wX g X N T Rd Fr Ac Ch PS Ly Pa OT Ea Ga Im0 Im1) (rf := fun u_1 => zI u_1) (rm := zrX_canBePlaced) cx (fun _ hq => tX_canBePlaced hq) d_X11_chain_2 5 rfl kk_X11_canBePlaced q_800 q_802 q_14 rfl e_X rfl ⟨rfl, rfl⟩ ⟨Nat.le_of_ble_eq_true rfl, Nat.le_of_ble_eq_true rfl⟩ rfl rfl (Nat.le_of_ble_eq_true rfl) ⟨Nat.zero_le _, Nat.zero_le _⟩ h (fun u_1 h => ?_)
  refine y_if_ne cx d_X11_chain_5 8 rfl 10 (by decide) rfl h (fun h => ?_) (fun h => ?_)
  · refine z_aload_n cx d_X11_chain_10 11 rfl rfl 0 rfl ?_
    refine z_get cx d_X11_chain_11 14 rfl e_X rfl zX11 4 (by decide) q_541 rfl rfl ?_
    refine z_iload_n cx d_X11_chain_14 15 rfl rfl 1 rfl ?_
    refine y_callV_i (As := [.int (zI a1)]) (rest := []) (W := fun u_2 => wX g X N T Rd Fr Ac u_2.2 PS Ly Pa OT Ea Ga Im0 Im1) (rf := fun u_2 => zI u_2.1) (rm := zrCh_find) cx (fun _ hq => tCh_find hq) d_X11_chain_15 18 rfl kk_X1_find q_804 q_805 q_806 rfl e_Ch rfl ⟨rfl, rfl⟩ ⟨Nat.le_of_ble_eq_true rfl, Nat.le_of_ble_eq_true rfl⟩ rfl rfl (Nat.le_of_ble_eq_true rfl) ⟨Nat.zero_le _, Nat.zero_le _⟩ h (fun u_2 h => ?_)
    refine y_istore_n cx d_X11_chain_18 19 rfl rfl (by decide) (lv' := [(2, .int (zI u_2.1)), (0, .ref (g.2.2 0)), (1, .int (zI a1))]) rfl ?_
    refine z_aload_n cx d_X11_chain_19 20 rfl rfl 1 rfl ?_
    refine z_get cx d_X11_chain_20 23 rfl e_X rfl zX11 4 (by decide) q_541 rfl rfl ?_
    refine y_callV_v (As := []) (rest := []) (W := fun u_3 => wX g X N T Rd Fr Ac u_3 PS Ly Pa OT Ea Ga Im0 Im1) (rm := zrCh_remember) cx (fun _ hq => tCh_remember hq) d_X11_chain_23 26 rfl kk_X1_remember q_821 q_822 q_823 rfl e_Ch rfl ⟨rfl, rfl⟩ ⟨Nat.le_of_ble_eq_true rfl, Nat.le_of_ble_eq_true rfl⟩ rfl rfl (Nat.le_of_ble_eq_true rfl) ⟨Nat.zero_le _, Nat.zero_le _⟩ h (fun u_3 h => ?_)
    refine z_iload_n cx d_X11_chain_26 27 rfl rfl 0 rfl ?_
    subst hQ
    obtain rfl := Option.some.inj h
    exact z_iret cx d_X11_chain_27 rfl rfl
  · refine y_iconst cx d_X11_chain_8 9 rfl ?_
    subst hQ
    obtain rfl := Option.some.inj h
    exact z_iret cx d_X11_chain_9 rfl rfl
def zrX_chainAt : Room := { frames := 1, cells := 0, slots := 0, locals := 22 }
set_option maxHeartbeats 4000000 in
theorem tX_chainAt {l : Launch} {g : ZG} {X : ZB} {N : ZB} {T : ZB} {Rd : ZB} {Fr : ZB} {Ac : ZA} {Ch : ZB} {PS : ZB} {Ly : ZB} {Pa : ZQ} {OT : ZB} {Ea : ZB} {Ga : ZB} {Im0 : ZO} {Im1 : ZO} {a1 : Int} {a2 : Int} {r : Int} (h : fX_chainAt Ch a1 a2 = some r) : zMi l yX11_chainAt cX11_chainAt 3 (some .int) zrX_chainAt g [.ref (g.2.2 0), .int (zI a1), .int (zI a2)] (wX g X N T Rd Fr Ac Ch PS Ly Pa OT Ea Ga Im0 Im1) (wX g X N T Rd Fr Ac Ch PS Ly Pa OT Ea Ga Im0 Im1) (zI r) := by
  unfold fX_chainAt at h
  refine zMi_q (own := RX11) rfl (by decide +kernel) (Nat.le_of_ble_eq_true rfl) (lv := [(0, .ref (g.2.2 0)), (1, .int (zI a1)), (2, .int (zI a2))]) rfl ⟨rfl, rfl⟩ ?_
  intro p e s m args below meth c A Q hQ cx
  refine z_aload_n cx d_X11_chainAt_0 1 rfl rfl 0 rfl ?_
  refine z_get cx d_X11_chainAt_1 4 rfl e_X rfl zX11 4 (by decide) q_541 rfl rfl ?_
  refine z_iload_n cx d_X11_chainAt_4 5 rfl rfl 1 rfl ?_
  refine z_iload_n cx d_X11_chainAt_5 6 rfl rfl 2 rfl ?_
  refine y_callV_i (As := [.int (zI a1), .int (zI a2)]) (rest := []) (W := fun u_1 => wX g X N T Rd Fr Ac Ch PS Ly Pa OT Ea Ga Im0 Im1) (rf := fun u_1 => zI u_1) (rm := zr0) cx (fun _ hq => tCh_toldAt hq) d_X11_chainAt_6 9 rfl kk_X1_toldAt q_839 q_840 q_841 rfl e_Ch rfl ⟨rfl, rfl⟩ ⟨Nat.le_of_ble_eq_true rfl, Nat.le_of_ble_eq_true rfl⟩ rfl rfl (Nat.le_of_ble_eq_true rfl) ⟨Nat.zero_le _, Nat.zero_le _⟩ h (fun u_1 h => ?_)
  subst hQ
  obtain rfl := Option.some.inj h
  exact z_iret cx d_X11_chainAt_9 rfl rfl
def zrX_crowd : Room := { frames := 1, cells := 0, slots := 0, locals := 20 }
set_option maxHeartbeats 4000000 in
theorem tX_crowd {l : Launch} {g : ZG} {X : ZB} {N : ZB} {T : ZB} {Rd : ZB} {Fr : ZB} {Ac : ZA} {Ch : ZB} {PS : ZB} {Ly : ZB} {Pa : ZQ} {OT : ZB} {Ea : ZB} {Ga : ZB} {Im0 : ZO} {Im1 : ZO}  {r : Int} (h : fX_crowd Ch = some r) : zMi l yX11_crowd cX11_crowd 1 (some .int) zrX_crowd g [.ref (g.2.2 0)] (wX g X N T Rd Fr Ac Ch PS Ly Pa OT Ea Ga Im0 Im1) (wX g X N T Rd Fr Ac Ch PS Ly Pa OT Ea Ga Im0 Im1) (zI r) := by
  unfold fX_crowd at h
  refine zMi_q (own := RX11) rfl (by decide +kernel) (Nat.le_of_ble_eq_true rfl) (lv := [(0, .ref (g.2.2 0))]) rfl ⟨rfl, rfl⟩ ?_
  intro p e s m args below meth c A Q hQ cx
  refine z_aload_n cx d_X11_crowd_0 1 rfl rfl 0 rfl ?_
  refine z_get cx d_X11_crowd_1 4 rfl e_X rfl zX11 4 (by decide) q_541 rfl rfl ?_
  refine y_callV_i (As := []) (rest := []) (W := fun u_1 => wX g X N T Rd Fr Ac Ch PS Ly Pa OT Ea Ga Im0 Im1) (rf := fun u_1 => zI u_1) (rm := zr0) cx (fun _ hq => tCh_toldCrowd hq) d_X11_crowd_4 7 rfl kk_X1_toldCrowd q_847 q_848 q_849 rfl e_Ch rfl ⟨rfl, rfl⟩ ⟨Nat.le_of_ble_eq_true rfl, Nat.le_of_ble_eq_true rfl⟩ rfl rfl (Nat.le_of_ble_eq_true rfl) ⟨Nat.zero_le _, Nat.zero_le _⟩ h (fun u_1 h => ?_)
  subst hQ
  obtain rfl := Option.some.inj h
  exact z_iret cx d_X11_crowd_7 rfl rfl
def zrX_load : Room := { frames := 2, cells := 0, slots := 0, locals := 44 }
set_option maxHeartbeats 4000000 in
theorem tX_load {l : Launch} {g : ZG} {X : ZB} {N : ZB} {T : ZB} {Rd : ZB} {Fr : ZB} {Ac : ZA} {Ch : ZB} {PS : ZB} {Ly : ZB} {Pa : ZQ} {OT : ZB} {Ea : ZB} {Ga : ZB} {Im0 : ZO} {Im1 : ZO} {a1 : Int} {r : Int} (h : fX_load N a1 = some r) : zMi l yX11_load cX11_load 2 (some .int) zrX_load g [.ref (g.2.2 0), .int (zI a1)] (wX g X N T Rd Fr Ac Ch PS Ly Pa OT Ea Ga Im0 Im1) (wX g X N T Rd Fr Ac Ch PS Ly Pa OT Ea Ga Im0 Im1) (zI r) := by
  unfold fX_load at h
  refine zMi_q (own := RX11) rfl (by decide +kernel) (Nat.le_of_ble_eq_true rfl) (lv := [(0, .ref (g.2.2 0)), (1, .int (zI a1))]) rfl ⟨rfl, rfl⟩ ?_
  intro p e s m args below meth c A Q hQ cx
  refine z_iload_n cx d_X11_load_0 1 rfl rfl 1 rfl ?_
  refine kf1_f (P := fun (w0_1 : Int) => V p l e zrX_load s m args below meth c A s.heap g 2 Q (wX g X N T Rd Fr Ac Ch PS Ly Pa OT Ea Ga Im0 Im1) 0 0 [] 27 [.int (zI w0_1)]) h (fun w0_1 h => ?_) (fun k_2 hk_2 h => ?_)
  · subst hQ
    obtain rfl := Option.some.inj h
    exact z_iret cx d_X11_load_27 rfl rfl
  refine kf0_f (P := V p l e zrX_load s m args below meth c A s.heap g 2 Q (wX g X N T Rd Fr Ac Ch PS Ly Pa OT Ea Ga Im0 Im1) 0 0 [] 15 []) h (fun h => ?_) (fun k_3 hk_3 h => ?_)
  · refine y_iconst cx d_X11_load_15 16 rfl ?_
    refine z_goto cx d_X11_load_16 27 (by decide) ?_
    exact hk_2 _ h
  refine y_if_lt cx d_X11_load_1 4 rfl 15 (by decide) rfl h (fun h => ?_) (fun h => ?_)
  · refine z_sub [] rfl ?_
    exact hk_3  h
  · refine z_iload_n cx d_X11_load_4 5 rfl rfl 1 rfl ?_
    refine z_aload_n cx d_X11_load_5 6 rfl rfl 0 rfl ?_
    refine z_get cx d_X11_load_6 9 rfl e_X rfl zX11 0 (by decide) q_537 rfl rfl ?_
    refine z_get cx d_X11_load_9 12 rfl e_N rfl zX5 4 (by decide) q_178 rfl rfl ?_
    refine y_icmp_lt cx d_X11_load_12 15 rfl 19 (by decide) rfl rfl h (fun h => ?_) (fun h => ?_)
    · refine z_aload_n cx d_X11_load_19 20 rfl rfl 0 rfl ?_
      refine z_get cx d_X11_load_20 23 rfl e_X rfl zX11 0 (by decide) q_537 rfl rfl ?_
      refine z_iload_n cx d_X11_load_23 24 rfl rfl 1 rfl ?_
      refine y_callV_i (As := [.int (zI a1)]) (rest := []) (W := fun u_4 => wX g X N T Rd Fr Ac Ch PS Ly Pa OT Ea Ga Im0 Im1) (rf := fun u_4 => zI u_4) (rm := zrN_loadOf) cx (fun _ hq => tN_loadOf hq) d_X11_load_24 27 rfl kk_X5_loadOf q_909 q_910 q_911 rfl e_N rfl ⟨rfl, rfl⟩ ⟨Nat.le_of_ble_eq_true rfl, Nat.le_of_ble_eq_true rfl⟩ rfl rfl (Nat.le_of_ble_eq_true rfl) ⟨Nat.zero_le _, Nat.zero_le _⟩ h (fun u_4 h => ?_)
      refine z_sub [] rfl ?_
      exact hk_2 _ h
    · refine z_sub [] rfl ?_
      exact hk_3  h
def zrX_game : Room := { frames := 4, cells := 0, slots := 0, locals := 92 }
set_option maxHeartbeats 4000000 in
theorem tX_game {l : Launch} {g : ZG} {X : ZB} {N : ZB} {T : ZB} {Rd : ZB} {Fr : ZB} {Ac : ZA} {Ch : ZB} {PS : ZB} {Ly : ZB} {Pa : ZQ} {OT : ZB} {Ea : ZB} {Ga : ZB} {Im0 : ZO} {Im1 : ZO}  {r : Int × ZB × ZB} (h : fX_game N T Ga = some r) : zMi l yX11_game cX11_game 2 (some .int) zrX_game g [.ref (g.2.2 0)] (wX g X N T Rd Fr Ac Ch PS Ly Pa OT Ea Ga Im0 Im1) (wX g X N r.2.1 Rd Fr Ac Ch PS Ly Pa OT Ea r.2.2 Im0 Im1) (zI r.1) := by
  unfold fX_game at h
  refine zMi_q (own := RX11) rfl (by decide +kernel) (Nat.le_of_ble_eq_true rfl) (lv := [(0, .ref (g.2.2 0))]) rfl ⟨rfl, rfl⟩ ?_
  intro p e s m args below meth c A Q hQ cx
  refine z_aload_n cx d_X11_game_0 1 rfl rfl 0 rfl ?_
  refine z_get cx d_X11_game_1 4 rfl e_X rfl zX11 10 (by decide) q_547 rfl rfl ?_
  refine y_callV_i (As := []) (rest := []) (W := fun u_1 => wX g X N T Rd Fr Ac Ch PS Ly Pa OT Ea u_1.2 Im0 Im1) (rf := fun u_1 => zI u_1.1) (rm := zrGa_run) cx (fun _ hq => tGa_run hq) d_X11_game_4 7 rfl kk_X3_run q_938 q_939 q_940 rfl e_Ga rfl ⟨rfl, rfl⟩ ⟨Nat.le_of_ble_eq_true rfl, Nat.le_of_ble_eq_true rfl⟩ rfl rfl (Nat.le_of_ble_eq_true rfl) ⟨Nat.zero_le _, Nat.zero_le _⟩ h (fun u_1 h => ?_)
  refine y_istore_n cx d_X11_game_7 8 rfl rfl (by decide) (lv' := [(1, .int (zI u_1.1)), (0, .ref (g.2.2 0))]) rfl ?_
  refine z_aload_n cx d_X11_game_8 9 rfl rfl 1 rfl ?_
  refine z_get cx d_X11_game_9 12 rfl e_X rfl zX11 1 (by decide) q_538 rfl rfl ?_
  refine y_iconst cx d_X11_game_12 13 rfl ?_
  refine y_callV_v (As := [.int (zI 0)]) (rest := []) (W := fun u_2 => wX g X N u_2 Rd Fr Ac Ch PS Ly Pa OT Ea u_1.2 Im0 Im1) (rm := zr0) cx (fun _ hq => tT_cut hq) d_X11_game_13 16 rfl kk_X10_cut q_597 q_598 q_599 rfl e_T rfl ⟨rfl, rfl⟩ ⟨Nat.le_of_ble_eq_true rfl, Nat.le_of_ble_eq_true rfl⟩ rfl rfl (Nat.le_of_ble_eq_true rfl) ⟨Nat.zero_le _, Nat.zero_le _⟩ h (fun u_2 h => ?_)
  refine z_iload_n cx d_X11_game_16 17 rfl rfl 0 rfl ?_
  subst hQ
  obtain rfl := Option.some.inj h
  exact z_iret cx d_X11_game_17 rfl rfl
def zrX_keptAt : Room := { frames := 1, cells := 0, slots := 0, locals := 21 }
set_option maxHeartbeats 4000000 in
theorem tX_keptAt {l : Launch} {g : ZG} {X : ZB} {N : ZB} {T : ZB} {Rd : ZB} {Fr : ZB} {Ac : ZA} {Ch : ZB} {PS : ZB} {Ly : ZB} {Pa : ZQ} {OT : ZB} {Ea : ZB} {Ga : ZB} {Im0 : ZO} {Im1 : ZO} {a1 : Int} {r : Int} (h : fX_keptAt Ga a1 = some r) : zMi l yX11_keptAt cX11_keptAt 2 (some .int) zrX_keptAt g [.ref (g.2.2 0), .int (zI a1)] (wX g X N T Rd Fr Ac Ch PS Ly Pa OT Ea Ga Im0 Im1) (wX g X N T Rd Fr Ac Ch PS Ly Pa OT Ea Ga Im0 Im1) (zI r) := by
  unfold fX_keptAt at h
  refine zMi_q (own := RX11) rfl (by decide +kernel) (Nat.le_of_ble_eq_true rfl) (lv := [(0, .ref (g.2.2 0)), (1, .int (zI a1))]) rfl ⟨rfl, rfl⟩ ?_
  intro p e s m args below meth c A Q hQ cx
  refine z_aload_n cx d_X11_keptAt_0 1 rfl rfl 0 rfl ?_
  refine z_get cx d_X11_keptAt_1 4 rfl e_X rfl zX11 10 (by decide) q_547 rfl rfl ?_
  refine z_iload_n cx d_X11_keptAt_4 5 rfl rfl 1 rfl ?_
  refine y_callV_i (As := [.int (zI a1)]) (rest := []) (W := fun u_1 => wX g X N T Rd Fr Ac Ch PS Ly Pa OT Ea Ga Im0 Im1) (rf := fun u_1 => zI u_1) (rm := zr0) cx (fun _ hq => tGa_toldAt hq) d_X11_keptAt_5 8 rfl kk_X3_toldAt q_960 q_961 q_962 rfl e_Ga rfl ⟨rfl, rfl⟩ ⟨Nat.le_of_ble_eq_true rfl, Nat.le_of_ble_eq_true rfl⟩ rfl rfl (Nat.le_of_ble_eq_true rfl) ⟨Nat.zero_le _, Nat.zero_le _⟩ h (fun u_1 h => ?_)
  subst hQ
  obtain rfl := Option.some.inj h
  exact z_iret cx d_X11_keptAt_8 rfl rfl
def zrX_most : Room := { frames := 4, cells := 0, slots := 0, locals := 90 }
set_option maxHeartbeats 4000000 in
theorem tX_most {l : Launch} {g : ZG} {X : ZB} {N : ZB} {T : ZB} {Rd : ZB} {Fr : ZB} {Ac : ZA} {Ch : ZB} {PS : ZB} {Ly : ZB} {Pa : ZQ} {OT : ZB} {Ea : ZB} {Ga : ZB} {Im0 : ZO} {Im1 : ZO} {a1 : Int} {r : Int × ZB} (h : fX_most N PS a1 = some r) : zMi l yX11_most cX11_most 2 (some .int) zrX_most g [.ref (g.2.2 0), .int (zI a1)] (wX g X N T Rd Fr Ac Ch PS Ly Pa OT Ea Ga Im0 Im1) (wX g X N T Rd Fr Ac Ch r.2 Ly Pa OT Ea Ga Im0 Im1) (zI r.1) := by
  unfold fX_most at h
  refine zMi_q (own := RX11) rfl (by decide +kernel) (Nat.le_of_ble_eq_true rfl) (lv := [(0, .ref (g.2.2 0)), (1, .int (zI a1))]) rfl ⟨rfl, rfl⟩ ?_
  intro p e s m args below meth c A Q hQ cx
  refine z_iload_n cx d_X11_most_0 1 rfl rfl 1 rfl ?_
  refine kf2_f (P := fun (w0_1 : Int) (PS_2 : ZB) => V p l e zrX_most s m args below meth c A s.heap g 2 Q (wX g X N T Rd Fr Ac Ch PS_2 Ly Pa OT Ea Ga Im0 Im1) 0 0 [] 25 [.int (zI w0_1)]) h (fun w0_1 PS_2 h => ?_) (fun k_3 hk_3 h => ?_)
  · subst hQ
    obtain rfl := Option.some.inj h
    exact z_iret cx d_X11_most_25 rfl rfl
  refine kf0_f (P := V p l e zrX_most s m args below meth c A s.heap g 2 Q (wX g X N T Rd Fr Ac Ch PS Ly Pa OT Ea Ga Im0 Im1) 0 0 [] 10 []) h (fun h => ?_) (fun k_4 hk_4 h => ?_)
  · refine y_iconst cx d_X11_most_10 11 rfl ?_
    refine z_goto cx d_X11_most_11 25 (by decide) ?_
    exact hk_3 _ _ h
  refine y_if_lt cx d_X11_most_1 4 rfl 10 (by decide) rfl h (fun h => ?_) (fun h => ?_)
  · refine z_sub [] rfl ?_
    exact hk_4  h
  · refine z_iload_n cx d_X11_most_4 5 rfl rfl 1 rfl ?_
    refine y_bipush cx d_X11_most_5 7 rfl (by decide) ?_
    refine y_icmp_le cx d_X11_most_7 10 rfl 14 (by decide) rfl (nm_eq (x := 24) (by decide) (by decide)) h (fun h => ?_) (fun h => ?_)
    · refine z_aload_n cx d_X11_most_14 15 rfl rfl 0 rfl ?_
      refine z_get cx d_X11_most_15 18 rfl e_X rfl zX11 5 (by decide) q_542 rfl rfl ?_
      refine z_iload_n cx d_X11_most_18 19 rfl rfl 1 rfl ?_
      refine y_callV_i (As := [.int (zI a1)]) (rest := []) (W := fun u_5 => wX g X N T Rd Fr Ac Ch u_5.2 Ly Pa OT Ea Ga Im0 Im1) (rf := fun u_5 => zI u_5.1) (rm := zrPS_takeByNumber) cx (fun _ hq => tPS_takeByNumber hq) d_X11_most_19 22 rfl kk_X8_takeByNumber q_976 q_977 q_978 rfl e_PS rfl ⟨rfl, rfl⟩ ⟨Nat.le_of_ble_eq_true rfl, Nat.le_of_ble_eq_true rfl⟩ rfl rfl (Nat.le_of_ble_eq_true rfl) ⟨Nat.zero_le _, Nat.zero_le _⟩ h (fun u_5 h => ?_)
      refine y_callS_i (As := [.int (zI u_5.1)]) (rest := []) (W := fun u_6 => wX g X N T Rd Fr Ac Ch u_5.2 Ly Pa OT Ea Ga Im0 Im1) (rf := fun u_6 => zI u_6) (rm := zr0) cx (fun _ hq => tJI_bitCount hq) d_X11_most_22 25 rfl kk_B_bitCount q_740 q_741 ⟨rfl, rfl⟩ ⟨Nat.le_of_ble_eq_true rfl, Nat.le_of_ble_eq_true rfl⟩ rfl rfl (Nat.le_of_ble_eq_true rfl) ⟨Nat.zero_le _, Nat.zero_le _⟩ h (fun u_6 h => ?_)
      refine z_sub [] rfl ?_
      exact hk_3 _ _ h
    · refine z_sub [] rfl ?_
      exact hk_4  h
def zrX_fewest : Room := { frames := 5, cells := 0, slots := 0, locals := 110 }
set_option maxHeartbeats 4000000 in
theorem tX_fewest {l : Launch} {g : ZG} {X : ZB} {N : ZB} {T : ZB} {Rd : ZB} {Fr : ZB} {Ac : ZA} {Ch : ZB} {PS : ZB} {Ly : ZB} {Pa : ZQ} {OT : ZB} {Ea : ZB} {Ga : ZB} {Im0 : ZO} {Im1 : ZO}  {r : Int × ZB} (h : fX_fewest N PS = some r) : zMi l yX11_fewest cX11_fewest 1 (some .int) zrX_fewest g [.ref (g.2.2 0)] (wX g X N T Rd Fr Ac Ch PS Ly Pa OT Ea Ga Im0 Im1) (wX g X N T Rd Fr Ac Ch r.2 Ly Pa OT Ea Ga Im0 Im1) (zI r.1) := by
  unfold fX_fewest at h
  refine zMi_q (own := RX11) rfl (by decide +kernel) (Nat.le_of_ble_eq_true rfl) (lv := [(0, .ref (g.2.2 0))]) rfl ⟨rfl, rfl⟩ ?_
  intro p e s m args below meth c A Q hQ cx
  refine z_aload_n cx d_X11_fewest_0 1 rfl rfl 0 rfl ?_
  refine z_get cx d_X11_fewest_1 4 rfl e_X rfl zX11 5 (by decide) q_542 rfl rfl ?_
  refine y_callV_i (As := []) (rest := []) (W := fun u_1 => wX g X N T Rd Fr Ac Ch u_1.2 Ly Pa OT Ea Ga Im0 Im1) (rf := fun u_1 => zI u_1.1) (rm := zrPS_fewestForests) cx (fun _ hq => tPS_fewestForests hq) d_X11_fewest_4 7 rfl kk_X8_fewestForests q_1003 q_1004 q_1005 rfl e_PS rfl ⟨rfl, rfl⟩ ⟨Nat.le_of_ble_eq_true rfl, Nat.le_of_ble_eq_true rfl⟩ rfl rfl (Nat.le_of_ble_eq_true rfl) ⟨Nat.zero_le _, Nat.zero_le _⟩ h (fun u_1 h => ?_)
  subst hQ
  obtain rfl := Option.some.inj h
  exact z_iret cx d_X11_fewest_7 rfl rfl
def zrX_trees : Room := { frames := 5, cells := 0, slots := 0, locals := 112 }
set_option maxHeartbeats 4000000 in
theorem tX_trees {l : Launch} {g : ZG} {X : ZB} {N : ZB} {T : ZB} {Rd : ZB} {Fr : ZB} {Ac : ZA} {Ch : ZB} {PS : ZB} {Ly : ZB} {Pa : ZQ} {OT : ZB} {Ea : ZB} {Ga : ZB} {Im0 : ZO} {Im1 : ZO}  {r : Int × ZB} (h : fX_trees N PS = some r) : zMi l yX11_trees cX11_trees 1 (some .int) zrX_trees g [.ref (g.2.2 0)] (wX g X N T Rd Fr Ac Ch PS Ly Pa OT Ea Ga Im0 Im1) (wX g X N T Rd Fr Ac Ch r.2 Ly Pa OT Ea Ga Im0 Im1) (zI r.1) := by
  unfold fX_trees at h
  refine zMi_q (own := RX11) rfl (by decide +kernel) (Nat.le_of_ble_eq_true rfl) (lv := [(0, .ref (g.2.2 0))]) rfl ⟨rfl, rfl⟩ ?_
  intro p e s m args below meth c A Q hQ cx
  refine z_aload_n cx d_X11_trees_0 1 rfl rfl 0 rfl ?_
  refine z_get cx d_X11_trees_1 4 rfl e_X rfl zX11 0 (by decide) q_537 rfl rfl ?_
  refine z_get cx d_X11_trees_4 7 rfl e_N rfl zX5 4 (by decide) q_178 rfl rfl ?_
  refine y_iconst cx d_X11_trees_7 8 rfl ?_
  refine kf2_f (P := fun (w0_1 : Int) (PS_2 : ZB) => V p l e zrX_trees s m args below meth c A s.heap g 1 Q (wX g X N T Rd Fr Ac Ch PS_2 Ly Pa OT Ea Ga Im0 Im1) 0 0 [] 22 [.int (zI w0_1)]) h (fun w0_1 PS_2 h => ?_) (fun k_3 hk_3 h => ?_)
  · subst hQ
    obtain rfl := Option.some.inj h
    exact z_iret cx d_X11_trees_22 rfl rfl
  refine y_icmp_ge cx d_X11_trees_8 11 rfl 15 (by decide) rfl (nm_eq (x := 2) (by decide) (by decide)) h (fun h => ?_) (fun h => ?_)
  · refine z_aload_n cx d_X11_trees_15 16 rfl rfl 0 rfl ?_
    refine z_get cx d_X11_trees_16 19 rfl e_X rfl zX11 5 (by decide) q_542 rfl rfl ?_
    refine y_callV_i (As := []) (rest := []) (W := fun u_4 => wX g X N T Rd Fr Ac Ch u_4.2 Ly Pa OT Ea Ga Im0 Im1) (rf := fun u_4 => zI u_4.1) (rm := zrPS_mostTrees) cx (fun _ hq => tPS_mostTrees hq) d_X11_trees_19 22 rfl kk_X8_mostTrees q_1026 q_1027 q_1028 rfl e_PS rfl ⟨rfl, rfl⟩ ⟨Nat.le_of_ble_eq_true rfl, Nat.le_of_ble_eq_true rfl⟩ rfl rfl (Nat.le_of_ble_eq_true rfl) ⟨Nat.zero_le _, Nat.zero_le _⟩ h (fun u_4 h => ?_)
    refine z_sub [] rfl ?_
    exact hk_3 _ _ h
  · refine y_iconst cx d_X11_trees_11 12 rfl ?_
    refine z_goto cx d_X11_trees_12 22 (by decide) ?_
    refine z_sub [] rfl ?_
    exact hk_3 _ _ h
set_option maxHeartbeats 4000000 in
theorem tX_leastTerms {l : Launch} {g : ZG} {w : va_W} {a1 : Int} {a2 : Int} {a3 : Int} {r : Int} (h : fX_leastTerms a1 a2 a3 = some r) : zMi l yX11_leastTerms cX11_leastTerms 7 (some .int) zr0 g [.int (zI a1), .int (zI a2), .int (zI a3)] (w) (w) (zI r) := by
  unfold fX_leastTerms at h
  refine zMi_q (own := RX11) rfl (by decide +kernel) (Nat.le_of_ble_eq_true rfl) (lv := [(0, .int (zI a1)), (1, .int (zI a2)), (2, .int (zI a3))]) rfl ⟨rfl, rfl⟩ ?_
  intro p e s m args below meth c A Q hQ cx
  refine z_iload_n cx d_X11_leastTerms_0 1 rfl rfl 1 rfl ?_
  refine y_istore_n cx d_X11_leastTerms_1 2 rfl rfl (by decide) (lv' := [(3, .int (zI a2)), (0, .int (zI a1)), (1, .int (zI a2)), (2, .int (zI a3))]) rfl ?_
  refine z_iload_n cx d_X11_leastTerms_2 3 rfl rfl 1 rfl ?_
  refine y_istore cx d_X11_leastTerms_3 5 rfl (by decide) (lv' := [(4, .int (zI a1)), (3, .int (zI a2)), (0, .int (zI a1)), (1, .int (zI a2)), (2, .int (zI a3))]) rfl ?_
  refine y_iconst cx d_X11_leastTerms_5 6 rfl ?_
  refine y_istore cx d_X11_leastTerms_6 8 rfl (by decide) (lv' := [(5, .int (zI 0)), (4, .int (zI a1)), (3, .int (zI a2)), (0, .int (zI a1)), (1, .int (zI a2)), (2, .int (zI a3))]) rfl ?_
  refine z_sub [3, 4, 5, 2, 1, 0] rfl ?_
  refine lop3_f (P := fun (v3_1 : Int) (v4_2 : Int) (v5_3 : Int) => V p l e zr0 s m args below meth c A s.heap g 7 Q (w) 0 0 [(0, .int (zI a1)), (1, .int (zI a2)), (2, .int (zI a3)), (3, .int (zI v3_1)), (4, .int (zI v4_2)), (5, .int (zI v5_3))] 8 []) (fun rec_4 hrec_4 v3_1 v4_2 v5_3 h => ?_) _ _ _ _ h
  refine z_iload cx d_X11_leastTerms_8 10 rfl 5 rfl ?_
  refine y_bipush cx d_X11_leastTerms_10 12 rfl (by decide) ?_
  refine kf0_f (P := V p l e zr0 s m args below meth c A s.heap g 7 Q (w) 0 0 [(0, .int (zI a1)), (1, .int (zI a2)), (2, .int (zI a3)), (3, .int (zI v3_1))] 39 []) h (fun h => ?_) (fun k_5 hk_5 h => ?_)
  · refine z_iload_n cx d_X11_leastTerms_39 40 rfl rfl 2 rfl ?_
    refine kf1_f (P := fun (w0_6 : Int) => V p l e zr0 s m args below meth c A s.heap g 7 Q (w) 0 0 [(3, .int (zI v3_1))] 48 [.int (zI w0_6)]) h (fun w0_6 h => ?_) (fun k_7 hk_7 h => ?_)
    · refine y_istore cx d_X11_leastTerms_48 50 rfl (by decide) (lv' := [(5, .int (zI w0_6)), (3, .int (zI v3_1))]) rfl ?_
      refine z_iload_n cx d_X11_leastTerms_50 51 rfl rfl 1 rfl ?_
      refine kf1_f (P := fun (w0_8 : Int) => V p l e zr0 s m args below meth c A s.heap g 7 Q (w) 0 0 [] 63 [.int (zI w0_8)]) h (fun w0_8 h => ?_) (fun k_9 hk_9 h => ?_)
      · subst hQ
        obtain rfl := Option.some.inj h
        exact z_iret cx d_X11_leastTerms_63 rfl rfl
      refine y_if_ne cx d_X11_leastTerms_51 54 rfl 59 (by decide) rfl h (fun h => ?_) (fun h => ?_)
      · refine z_iload cx d_X11_leastTerms_59 61 rfl 0 rfl ?_
        refine z_iload_n cx d_X11_leastTerms_61 62 rfl rfl 1 rfl ?_
        refine y_idiv cx d_X11_leastTerms_62 63 rfl h (fun h => ?_)
        refine z_sub [] rfl ?_
        exact hk_9 _ h
      · refine z_iload cx d_X11_leastTerms_54 56 rfl 0 rfl ?_
        refine z_goto cx d_X11_leastTerms_56 63 (by decide) ?_
        refine z_sub [] rfl ?_
        exact hk_9 _ h
    refine y_if_ne cx d_X11_leastTerms_40 43 rfl 47 (by decide) rfl h (fun h => ?_) (fun h => ?_)
    · refine z_iload_n cx d_X11_leastTerms_47 48 rfl rfl 1 rfl ?_
      refine z_sub [3] rfl ?_
      exact hk_7 _ h
    · refine z_iload_n cx d_X11_leastTerms_43 44 rfl rfl 0 rfl ?_
      refine z_goto cx d_X11_leastTerms_44 48 (by decide) ?_
      refine z_sub [3] rfl ?_
      exact hk_7 _ h
  refine y_icmp_ge cx d_X11_leastTerms_12 15 rfl 39 (by decide) rfl (nm_eq (x := 64) (by decide) (by decide)) h (fun h => ?_) (fun h => ?_)
  · refine z_sub [0, 1, 2, 3] rfl ?_
    exact hk_5  h
  · refine z_iload cx d_X11_leastTerms_15 17 rfl 4 rfl ?_
    refine y_if_eq cx d_X11_leastTerms_17 20 rfl 39 (by decide) rfl h (fun h => ?_) (fun h => ?_)
    · refine z_sub [0, 1, 2, 3] rfl ?_
      exact hk_5  h
    · refine z_iload_n cx d_X11_leastTerms_20 21 rfl rfl 3 rfl ?_
      refine z_iload cx d_X11_leastTerms_21 23 rfl 4 rfl ?_
      refine y_irem cx d_X11_leastTerms_23 24 rfl h (fun h => ?_)
      refine y_istore_b cx d_X11_leastTerms_24 26 rfl (by decide) (fun y => [(6, .int (zI y)), (0, .int (zI a1)), (1, .int (zI a2)), (2, .int (zI a3)), (3, .int (zI v3_1)), (4, .int (zI v4_2)), (5, .int (zI v5_3))]) (fun y => rfl) h (fun v6_10 h => ?_)
      refine z_iload cx d_X11_leastTerms_26 28 rfl 5 rfl ?_
      refine y_istore_n cx d_X11_leastTerms_28 29 rfl rfl (by decide) (lv' := [(3, .int (zI v4_2)), (6, .int (zI v6_10)), (0, .int (zI a1)), (1, .int (zI a2)), (2, .int (zI a3)), (4, .int (zI v4_2)), (5, .int (zI v5_3))]) rfl ?_
      refine z_iload cx d_X11_leastTerms_29 31 rfl 1 rfl ?_
      refine y_istore cx d_X11_leastTerms_31 33 rfl (by decide) (lv' := [(4, .int (zI v6_10)), (3, .int (zI v4_2)), (6, .int (zI v6_10)), (0, .int (zI a1)), (1, .int (zI a2)), (2, .int (zI a3)), (5, .int (zI v5_3))]) rfl ?_
      refine y_iinc cx 6 d_X11_leastTerms_33 36 rfl rfl (by decide) (lv' := [(5, .int (zI (v5_3 + 1))), (4, .int (zI v6_10)), (3, .int (zI v4_2)), (6, .int (zI v6_10)), (0, .int (zI a1)), (1, .int (zI a2)), (2, .int (zI a3))]) rfl ?_
      refine z_goto cx d_X11_leastTerms_36 8 (by decide) ?_
      refine z_sub [4, 5, 6, 2, 1, 0] rfl ?_
      exact hrec_4 _ _ _ h
def zrX_thick : Room := { frames := 4, cells := 0, slots := 0, locals := 91 }
set_option maxHeartbeats 4000000 in
theorem tX_thick {l : Launch} {g : ZG} {X : ZB} {N : ZB} {T : ZB} {Rd : ZB} {Fr : ZB} {Ac : ZA} {Ch : ZB} {PS : ZB} {Ly : ZB} {Pa : ZQ} {OT : ZB} {Ea : ZB} {Ga : ZB} {Im0 : ZO} {Im1 : ZO} {a1 : Int} {r : Int × ZB} (h : fX_thick N PS a1 = some r) : zMi l yX11_thick cX11_thick 2 (some .int) zrX_thick g [.ref (g.2.2 0), .int (zI a1)] (wX g X N T Rd Fr Ac Ch PS Ly Pa OT Ea Ga Im0 Im1) (wX g X N T Rd Fr Ac Ch r.2 Ly Pa OT Ea Ga Im0 Im1) (zI r.1) := by
  unfold fX_thick at h
  refine zMi_q (own := RX11) rfl (by decide +kernel) (Nat.le_of_ble_eq_true rfl) (lv := [(0, .ref (g.2.2 0)), (1, .int (zI a1))]) rfl ⟨rfl, rfl⟩ ?_
  intro p e s m args below meth c A Q hQ cx
  refine z_aload_n cx d_X11_thick_0 1 rfl rfl 0 rfl ?_
  refine z_get cx d_X11_thick_1 4 rfl e_X rfl zX11 0 (by decide) q_537 rfl rfl ?_
  refine z_get cx d_X11_thick_4 7 rfl e_N rfl zX5 4 (by decide) q_178 rfl rfl ?_
  refine y_iconst cx d_X11_thick_7 8 rfl ?_
  refine kf0_f (P := V p l e zrX_thick s m args below meth c A s.heap g 2 Q (wX g X N T Rd Fr Ac Ch PS Ly Pa OT Ea Ga Im0 Im1) 0 0 [] 20 []) h (fun h => ?_) (fun k_1 hk_1 h => ?_)
  · refine y_iconst cx d_X11_thick_20 21 rfl ?_
    subst hQ
    obtain rfl := Option.some.inj h
    exact z_iret cx d_X11_thick_21 rfl rfl
  refine y_icmp_lt cx d_X11_thick_8 11 rfl 20 (by decide) rfl (nm_eq (x := 2) (by decide) (by decide)) h (fun h => ?_) (fun h => ?_)
  · refine z_sub [] rfl ?_
    exact hk_1  h
  · refine z_iload_n cx d_X11_thick_11 12 rfl rfl 1 rfl ?_
    refine y_if_lt cx d_X11_thick_12 15 rfl 20 (by decide) rfl h (fun h => ?_) (fun h => ?_)
    · refine z_sub [] rfl ?_
      exact hk_1  h
    · refine z_iload_n cx d_X11_thick_15 16 rfl rfl 1 rfl ?_
      refine y_iconst cx d_X11_thick_16 17 rfl ?_
      refine y_icmp_le cx d_X11_thick_17 20 rfl 22 (by decide) rfl (nm_eq (x := 2) (by decide) (by decide)) h (fun h => ?_) (fun h => ?_)
      · refine z_aload_n cx d_X11_thick_22 23 rfl rfl 0 rfl ?_
        refine z_get cx d_X11_thick_23 26 rfl e_X rfl zX11 5 (by decide) q_542 rfl rfl ?_
        refine y_callV_v (As := []) (rest := []) (W := fun u_2 => wX g X N T Rd Fr Ac Ch u_2 Ly Pa OT Ea Ga Im0 Im1) (rm := zrPS_findThick0) cx (fun _ hq => tPS_findThick0 hq) d_X11_thick_26 29 rfl kk_X8_findThick q_1035 q_1036 q_1037 rfl e_PS rfl ⟨rfl, rfl⟩ ⟨Nat.le_of_ble_eq_true rfl, Nat.le_of_ble_eq_true rfl⟩ rfl rfl (Nat.le_of_ble_eq_true rfl) ⟨Nat.zero_le _, Nat.zero_le _⟩ h (fun u_2 h => ?_)
        refine z_iload_n cx d_X11_thick_29 30 rfl rfl 1 rfl ?_
        refine y_iconst cx d_X11_thick_30 31 rfl ?_
        refine y_icmp_ne cx d_X11_thick_31 34 rfl 42 (by decide) rfl (nm_eq (x := 2) (by decide) (by decide)) h (fun h => ?_) (fun h => ?_)
        · refine z_aload_n cx d_X11_thick_42 43 rfl rfl 0 rfl ?_
          refine z_get cx d_X11_thick_43 46 rfl e_X rfl zX11 5 (by decide) q_542 rfl rfl ?_
          refine y_callV_i (As := []) (rest := []) (W := fun u_3 => wX g X N T Rd Fr Ac Ch u_2 Ly Pa OT Ea Ga Im0 Im1) (rf := fun u_3 => zI u_3) (rm := zr0) cx (fun _ hq => tPS_bestAbove hq) d_X11_thick_46 49 rfl kk_X8_bestAbove q_1047 q_1048 q_1049 rfl e_PS rfl ⟨rfl, rfl⟩ ⟨Nat.le_of_ble_eq_true rfl, Nat.le_of_ble_eq_true rfl⟩ rfl rfl (Nat.le_of_ble_eq_true rfl) ⟨Nat.zero_le _, Nat.zero_le _⟩ h (fun u_3 h => ?_)
          refine z_aload_n cx d_X11_thick_49 50 rfl rfl 0 rfl ?_
          refine z_get cx d_X11_thick_50 53 rfl e_X rfl zX11 5 (by decide) q_542 rfl rfl ?_
          refine y_callV_i (As := []) (rest := [.int (zI u_3)]) (W := fun u_4 => wX g X N T Rd Fr Ac Ch u_2 Ly Pa OT Ea Ga Im0 Im1) (rf := fun u_4 => zI u_4) (rm := zr0) cx (fun _ hq => tPS_bestBelow hq) d_X11_thick_53 56 rfl kk_X8_bestBelow q_1051 q_1052 q_1053 rfl e_PS rfl ⟨rfl, rfl⟩ ⟨Nat.le_of_ble_eq_true rfl, Nat.le_of_ble_eq_true rfl⟩ rfl rfl (Nat.le_of_ble_eq_true rfl) ⟨Nat.zero_le _, Nat.zero_le _⟩ h (fun u_4 h => ?_)
          refine z_iload_n cx d_X11_thick_56 57 rfl rfl 1 rfl ?_
          refine y_callS_i (As := [.int (zI u_3), .int (zI u_4), .int (zI a1)]) (rest := []) (W := fun u_5 => wX g X N T Rd Fr Ac Ch u_2 Ly Pa OT Ea Ga Im0 Im1) (rf := fun u_5 => zI u_5) (rm := zr0) cx (fun _ hq => tX_leastTerms hq) d_X11_thick_57 60 rfl kk_X11_leastTerms q_1055 q_1056 ⟨rfl, rfl⟩ ⟨Nat.le_of_ble_eq_true rfl, Nat.le_of_ble_eq_true rfl⟩ rfl rfl (Nat.le_of_ble_eq_true rfl) ⟨Nat.zero_le _, Nat.zero_le _⟩ h (fun u_5 h => ?_)
          subst hQ
          obtain rfl := Option.some.inj h
          exact z_iret cx d_X11_thick_60 rfl rfl
        · refine z_aload_n cx d_X11_thick_34 35 rfl rfl 0 rfl ?_
          refine z_get cx d_X11_thick_35 38 rfl e_X rfl zX11 5 (by decide) q_542 rfl rfl ?_
          refine y_callV_i (As := []) (rest := []) (W := fun u_6 => wX g X N T Rd Fr Ac Ch u_2 Ly Pa OT Ea Ga Im0 Im1) (rf := fun u_6 => zI u_6) (rm := zr0) cx (fun _ hq => tPS_bestSet hq) d_X11_thick_38 41 rfl kk_X8_bestSet q_1043 q_1044 q_1045 rfl e_PS rfl ⟨rfl, rfl⟩ ⟨Nat.le_of_ble_eq_true rfl, Nat.le_of_ble_eq_true rfl⟩ rfl rfl (Nat.le_of_ble_eq_true rfl) ⟨Nat.zero_le _, Nat.zero_le _⟩ h (fun u_6 h => ?_)
          subst hQ
          obtain rfl := Option.some.inj h
          exact z_iret cx d_X11_thick_41 rfl rfl
      · refine z_sub [] rfl ?_
        exact hk_1  h
def zrX_crowded : Room := { frames := 4, cells := 0, slots := 0, locals := 93 }
set_option maxHeartbeats 4000000 in
theorem tX_crowded {l : Launch} {g : ZG} {X : ZB} {N : ZB} {T : ZB} {Rd : ZB} {Fr : ZB} {Ac : ZA} {Ch : ZB} {PS : ZB} {Ly : ZB} {Pa : ZQ} {OT : ZB} {Ea : ZB} {Ga : ZB} {Im0 : ZO} {Im1 : ZO} {a1 : Int} {r : Int × ZB} (h : fX_crowded N PS a1 = some r) : zMi l yX11_crowded cX11_crowded 2 (some .int) zrX_crowded g [.ref (g.2.2 0), .int (zI a1)] (wX g X N T Rd Fr Ac Ch PS Ly Pa OT Ea Ga Im0 Im1) (wX g X N T Rd Fr Ac Ch r.2 Ly Pa OT Ea Ga Im0 Im1) (zI r.1) := by
  unfold fX_crowded at h
  refine zMi_q (own := RX11) rfl (by decide +kernel) (Nat.le_of_ble_eq_true rfl) (lv := [(0, .ref (g.2.2 0)), (1, .int (zI a1))]) rfl ⟨rfl, rfl⟩ ?_
  intro p e s m args below meth c A Q hQ cx
  refine z_iload_n cx d_X11_crowded_0 1 rfl rfl 1 rfl ?_
  refine kf2_f (P := fun (w0_1 : Int) (PS_2 : ZB) => V p l e zrX_crowded s m args below meth c A s.heap g 2 Q (wX g X N T Rd Fr Ac Ch PS_2 Ly Pa OT Ea Ga Im0 Im1) 0 0 [] 22 [.int (zI w0_1)]) h (fun w0_1 PS_2 h => ?_) (fun k_3 hk_3 h => ?_)
  · subst hQ
    obtain rfl := Option.some.inj h
    exact z_iret cx d_X11_crowded_22 rfl rfl
  refine kf0_f (P := V p l e zrX_crowded s m args below meth c A s.heap g 2 Q (wX g X N T Rd Fr Ac Ch PS Ly Pa OT Ea Ga Im0 Im1) 0 0 [] 10 []) h (fun h => ?_) (fun k_4 hk_4 h => ?_)
  · refine y_iconst cx d_X11_crowded_10 11 rfl ?_
    refine z_goto cx d_X11_crowded_11 22 (by decide) ?_
    exact hk_3 _ _ h
  refine y_if_lt cx d_X11_crowded_1 4 rfl 10 (by decide) rfl h (fun h => ?_) (fun h => ?_)
  · refine z_sub [] rfl ?_
    exact hk_4  h
  · refine z_iload_n cx d_X11_crowded_4 5 rfl rfl 1 rfl ?_
    refine y_bipush cx d_X11_crowded_5 7 rfl (by decide) ?_
    refine y_icmp_le cx d_X11_crowded_7 10 rfl 14 (by decide) rfl (nm_eq (x := 24) (by decide) (by decide)) h (fun h => ?_) (fun h => ?_)
    · refine z_aload_n cx d_X11_crowded_14 15 rfl rfl 0 rfl ?_
      refine z_get cx d_X11_crowded_15 18 rfl e_X rfl zX11 5 (by decide) q_542 rfl rfl ?_
      refine z_iload_n cx d_X11_crowded_18 19 rfl rfl 1 rfl ?_
      refine y_callV_i (As := [.int (zI a1)]) (rest := []) (W := fun u_5 => wX g X N T Rd Fr Ac Ch u_5.2 Ly Pa OT Ea Ga Im0 Im1) (rf := fun u_5 => zI u_5.1) (rm := zrPS_findCrowded) cx (fun _ hq => tPS_findCrowded hq) d_X11_crowded_19 22 rfl kk_X8_findCrowded q_1062 q_1063 q_1064 rfl e_PS rfl ⟨rfl, rfl⟩ ⟨Nat.le_of_ble_eq_true rfl, Nat.le_of_ble_eq_true rfl⟩ rfl rfl (Nat.le_of_ble_eq_true rfl) ⟨Nat.zero_le _, Nat.zero_le _⟩ h (fun u_5 h => ?_)
      refine z_sub [] rfl ?_
      exact hk_3 _ _ h
    · refine z_sub [] rfl ?_
      exact hk_4  h
def zrX_even : Room := { frames := 5, cells := 0, slots := 0, locals := 110 }
set_option maxHeartbeats 4000000 in
theorem tX_even {l : Launch} {g : ZG} {X : ZB} {N : ZB} {T : ZB} {Rd : ZB} {Fr : ZB} {Ac : ZA} {Ch : ZB} {PS : ZB} {Ly : ZB} {Pa : ZQ} {OT : ZB} {Ea : ZB} {Ga : ZB} {Im0 : ZO} {Im1 : ZO}  {r : Int × ZB} (h : fX_even N PS = some r) : zMi l yX11_even cX11_even 1 (some .int) zrX_even g [.ref (g.2.2 0)] (wX g X N T Rd Fr Ac Ch PS Ly Pa OT Ea Ga Im0 Im1) (wX g X N T Rd Fr Ac Ch r.2 Ly Pa OT Ea Ga Im0 Im1) (zI r.1) := by
  unfold fX_even at h
  refine zMi_q (own := RX11) rfl (by decide +kernel) (Nat.le_of_ble_eq_true rfl) (lv := [(0, .ref (g.2.2 0))]) rfl ⟨rfl, rfl⟩ ?_
  intro p e s m args below meth c A Q hQ cx
  refine z_aload_n cx d_X11_even_0 1 rfl rfl 0 rfl ?_
  refine z_get cx d_X11_even_1 4 rfl e_X rfl zX11 5 (by decide) q_542 rfl rfl ?_
  refine y_callV_i (As := []) (rest := []) (W := fun u_1 => wX g X N T Rd Fr Ac Ch u_1.2 Ly Pa OT Ea Ga Im0 Im1) (rf := fun u_1 => zI u_1.1) (rm := zrPS_leastLoad) cx (fun _ hq => tPS_leastLoad hq) d_X11_even_4 7 rfl kk_X8_leastLoad q_1101 q_1102 q_1103 rfl e_PS rfl ⟨rfl, rfl⟩ ⟨Nat.le_of_ble_eq_true rfl, Nat.le_of_ble_eq_true rfl⟩ rfl rfl (Nat.le_of_ble_eq_true rfl) ⟨Nat.zero_le _, Nat.zero_le _⟩ h (fun u_1 h => ?_)
  subst hQ
  obtain rfl := Option.some.inj h
  exact z_iret cx d_X11_even_7 rfl rfl
def zrX_rooted : Room := { frames := 4, cells := 0, slots := 0, locals := 89 }
set_option maxHeartbeats 4000000 in
theorem tX_rooted {l : Launch} {g : ZG} {X : ZB} {N : ZB} {T : ZB} {Rd : ZB} {Fr : ZB} {Ac : ZA} {Ch : ZB} {PS : ZB} {Ly : ZB} {Pa : ZQ} {OT : ZB} {Ea : ZB} {Ga : ZB} {Im0 : ZO} {Im1 : ZO} {a1 : Int} {r : Int × ZB} (h : fX_rooted N OT a1 = some r) : zMi l yX11_rooted cX11_rooted 2 (some .int) zrX_rooted g [.ref (g.2.2 0), .int (zI a1)] (wX g X N T Rd Fr Ac Ch PS Ly Pa OT Ea Ga Im0 Im1) (wX g X N T Rd Fr Ac Ch PS Ly Pa r.2 Ea Ga Im0 Im1) (zI r.1) := by
  unfold fX_rooted at h
  refine zMi_q (own := RX11) rfl (by decide +kernel) (Nat.le_of_ble_eq_true rfl) (lv := [(0, .ref (g.2.2 0)), (1, .int (zI a1))]) rfl ⟨rfl, rfl⟩ ?_
  intro p e s m args below meth c A Q hQ cx
  refine z_aload_n cx d_X11_rooted_0 1 rfl rfl 0 rfl ?_
  refine z_get cx d_X11_rooted_1 4 rfl e_X rfl zX11 0 (by decide) q_537 rfl rfl ?_
  refine z_get cx d_X11_rooted_4 7 rfl e_N rfl zX5 4 (by decide) q_178 rfl rfl ?_
  refine y_iconst cx d_X11_rooted_7 8 rfl ?_
  refine kf0_f (P := V p l e zrX_rooted s m args below meth c A s.heap g 2 Q (wX g X N T Rd Fr Ac Ch PS Ly Pa OT Ea Ga Im0 Im1) 0 0 [] 26 []) h (fun h => ?_) (fun k_1 hk_1 h => ?_)
  · refine y_iconst cx d_X11_rooted_26 27 rfl ?_
    subst hQ
    obtain rfl := Option.some.inj h
    exact z_iret cx d_X11_rooted_27 rfl rfl
  refine y_icmp_lt cx d_X11_rooted_8 11 rfl 26 (by decide) rfl (nm_eq (x := 2) (by decide) (by decide)) h (fun h => ?_) (fun h => ?_)
  · refine z_sub [] rfl ?_
    exact hk_1  h
  · refine z_iload_n cx d_X11_rooted_11 12 rfl rfl 1 rfl ?_
    refine y_if_lt cx d_X11_rooted_12 15 rfl 26 (by decide) rfl h (fun h => ?_) (fun h => ?_)
    · refine z_sub [] rfl ?_
      exact hk_1  h
    · refine z_iload_n cx d_X11_rooted_15 16 rfl rfl 1 rfl ?_
      refine z_aload_n cx d_X11_rooted_16 17 rfl rfl 0 rfl ?_
      refine z_get cx d_X11_rooted_17 20 rfl e_X rfl zX11 0 (by decide) q_537 rfl rfl ?_
      refine z_get cx d_X11_rooted_20 23 rfl e_N rfl zX5 4 (by decide) q_178 rfl rfl ?_
      refine y_icmp_lt cx d_X11_rooted_23 26 rfl 28 (by decide) rfl rfl h (fun h => ?_) (fun h => ?_)
      · refine z_aload_n cx d_X11_rooted_28 29 rfl rfl 0 rfl ?_
        refine z_get cx d_X11_rooted_29 32 rfl e_X rfl zX11 8 (by decide) q_545 rfl rfl ?_
        refine z_iload_n cx d_X11_rooted_32 33 rfl rfl 1 rfl ?_
        refine y_callV_i (As := [.int (zI a1)]) (rest := []) (W := fun u_2 => wX g X N T Rd Fr Ac Ch PS Ly Pa u_2.2 Ea Ga Im0 Im1) (rf := fun u_2 => zI u_2.1) (rm := zrOT_countFrom) cx (fun _ hq => tOT_countFrom hq) d_X11_rooted_33 36 rfl kk_X6_countFrom q_1109 q_1110 q_1111 rfl e_OT rfl ⟨rfl, rfl⟩ ⟨Nat.le_of_ble_eq_true rfl, Nat.le_of_ble_eq_true rfl⟩ rfl rfl (Nat.le_of_ble_eq_true rfl) ⟨Nat.zero_le _, Nat.zero_le _⟩ h (fun u_2 h => ?_)
        subst hQ
        obtain rfl := Option.some.inj h
        exact z_iret cx d_X11_rooted_36 rfl rfl
      · refine z_sub [] rfl ?_
        exact hk_1  h
def zrX_outTree : Room := { frames := 6, cells := 0, slots := 0, locals := 146 }
set_option maxHeartbeats 4000000 in
theorem tX_outTree {l : Launch} {g : ZG} {X : ZB} {N : ZB} {T : ZB} {Rd : ZB} {Fr : ZB} {Ac : ZA} {Ch : ZB} {PS : ZB} {Ly : ZB} {Pa : ZQ} {OT : ZB} {Ea : ZB} {Ga : ZB} {Im0 : ZO} {Im1 : ZO} {a1 : Int} {a2 : Int} {r : Int × ZB} (h : fX_outTree N OT a1 a2 = some r) : zMi l yX11_outTree cX11_outTree 3 (some .int) zrX_outTree g [.ref (g.2.2 0), .int (zI a1), .int (zI a2)] (wX g X N T Rd Fr Ac Ch PS Ly Pa OT Ea Ga Im0 Im1) (wX g X N T Rd Fr Ac Ch PS Ly Pa r.2 Ea Ga Im0 Im1) (zI r.1) := by
  unfold fX_outTree at h
  refine zMi_q (own := RX11) rfl (by decide +kernel) (Nat.le_of_ble_eq_true rfl) (lv := [(0, .ref (g.2.2 0)), (1, .int (zI a1)), (2, .int (zI a2))]) rfl ⟨rfl, rfl⟩ ?_
  intro p e s m args below meth c A Q hQ cx
  refine z_aload_n cx d_X11_outTree_0 1 rfl rfl 0 rfl ?_
  refine z_get cx d_X11_outTree_1 4 rfl e_X rfl zX11 0 (by decide) q_537 rfl rfl ?_
  refine z_get cx d_X11_outTree_4 7 rfl e_N rfl zX5 4 (by decide) q_178 rfl rfl ?_
  refine y_iconst cx d_X11_outTree_7 8 rfl ?_
  refine kf0_f (P := V p l e zrX_outTree s m args below meth c A s.heap g 3 Q (wX g X N T Rd Fr Ac Ch PS Ly Pa OT Ea Ga Im0 Im1) 0 0 [] 26 []) h (fun h => ?_) (fun k_1 hk_1 h => ?_)
  · refine y_iconst cx d_X11_outTree_26 27 rfl ?_
    subst hQ
    obtain rfl := Option.some.inj h
    exact z_iret cx d_X11_outTree_27 rfl rfl
  refine y_icmp_lt cx d_X11_outTree_8 11 rfl 26 (by decide) rfl (nm_eq (x := 2) (by decide) (by decide)) h (fun h => ?_) (fun h => ?_)
  · refine z_sub [] rfl ?_
    exact hk_1  h
  · refine z_iload_n cx d_X11_outTree_11 12 rfl rfl 1 rfl ?_
    refine y_if_lt cx d_X11_outTree_12 15 rfl 26 (by decide) rfl h (fun h => ?_) (fun h => ?_)
    · refine z_sub [] rfl ?_
      exact hk_1  h
    · refine z_iload_n cx d_X11_outTree_15 16 rfl rfl 1 rfl ?_
      refine z_aload_n cx d_X11_outTree_16 17 rfl rfl 0 rfl ?_
      refine z_get cx d_X11_outTree_17 20 rfl e_X rfl zX11 0 (by decide) q_537 rfl rfl ?_
      refine z_get cx d_X11_outTree_20 23 rfl e_N rfl zX5 4 (by decide) q_178 rfl rfl ?_
      refine y_icmp_lt cx d_X11_outTree_23 26 rfl 28 (by decide) rfl rfl h (fun h => ?_) (fun h => ?_)
      · refine z_aload_n cx d_X11_outTree_28 29 rfl rfl 0 rfl ?_
        refine z_get cx d_X11_outTree_29 32 rfl e_X rfl zX11 8 (by decide) q_545 rfl rfl ?_
        refine z_iload_n cx d_X11_outTree_32 33 rfl rfl 1 rfl ?_
        refine z_iload_n cx d_X11_outTree_33 34 rfl rfl 2 rfl ?_
        refine y_callV_i (As := [.int (zI a1), .int (zI a2)]) (rest := []) (W := fun u_2 => wX g X N T Rd Fr Ac Ch PS Ly Pa u_2.2 Ea Ga Im0 Im1) (rf := fun u_2 => zI u_2.1) (rm := zrOT_treeSet) cx (fun _ hq => tOT_treeSet hq) d_X11_outTree_34 37 rfl kk_X6_treeSet q_1130 q_1131 q_1132 rfl e_OT rfl ⟨rfl, rfl⟩ ⟨Nat.le_of_ble_eq_true rfl, Nat.le_of_ble_eq_true rfl⟩ rfl rfl (Nat.le_of_ble_eq_true rfl) ⟨Nat.zero_le _, Nat.zero_le _⟩ h (fun u_2 h => ?_)
        subst hQ
        obtain rfl := Option.some.inj h
        exact z_iret cx d_X11_outTree_37 rfl rfl
      · refine z_sub [] rfl ?_
        exact hk_1  h
def zrX_vital : Room := { frames := 5, cells := 0, slots := 0, locals := 115 }
set_option maxHeartbeats 4000000 in
theorem tX_vital {l : Launch} {g : ZG} {X : ZB} {N : ZB} {T : ZB} {Rd : ZB} {Fr : ZB} {Ac : ZA} {Ch : ZB} {PS : ZB} {Ly : ZB} {Pa : ZQ} {OT : ZB} {Ea : ZB} {Ga : ZB} {Im0 : ZO} {Im1 : ZO}  {r : Int × ZB} (h : fX_vital N PS = some r) : zMi l yX11_vital cX11_vital 1 (some .int) zrX_vital g [.ref (g.2.2 0)] (wX g X N T Rd Fr Ac Ch PS Ly Pa OT Ea Ga Im0 Im1) (wX g X N T Rd Fr Ac Ch r.2 Ly Pa OT Ea Ga Im0 Im1) (zI r.1) := by
  unfold fX_vital at h
  refine zMi_q (own := RX11) rfl (by decide +kernel) (Nat.le_of_ble_eq_true rfl) (lv := [(0, .ref (g.2.2 0))]) rfl ⟨rfl, rfl⟩ ?_
  intro p e s m args below meth c A Q hQ cx
  refine z_aload_n cx d_X11_vital_0 1 rfl rfl 0 rfl ?_
  refine z_get cx d_X11_vital_1 4 rfl e_X rfl zX11 5 (by decide) q_542 rfl rfl ?_
  refine z_aload_n cx d_X11_vital_4 5 rfl rfl 0 rfl ?_
  refine z_get cx d_X11_vital_5 8 rfl e_X rfl zX11 0 (by decide) q_537 rfl rfl ?_
  refine z_get cx d_X11_vital_8 11 rfl e_N rfl zX5 6 (by decide) q_191 rfl rfl ?_
  refine y_callV_i (As := [.int (zI (N.1 6))]) (rest := []) (W := fun u_1 => wX g X N T Rd Fr Ac Ch u_1.2 Ly Pa OT Ea Ga Im0 Im1) (rf := fun u_1 => zI u_1.1) (rm := zrPS_vitalSet) cx (fun _ hq => tPS_vitalSet hq) d_X11_vital_11 14 rfl kk_X8_vitalSet q_1152 q_1153 q_1154 rfl e_PS rfl ⟨rfl, rfl⟩ ⟨Nat.le_of_ble_eq_true rfl, Nat.le_of_ble_eq_true rfl⟩ rfl rfl (Nat.le_of_ble_eq_true rfl) ⟨Nat.zero_le _, Nat.zero_le _⟩ h (fun u_1 h => ?_)
  subst hQ
  obtain rfl := Option.some.inj h
  exact z_iret cx d_X11_vital_14 rfl rfl
def zrX_layers : Room := { frames := 4, cells := 0, slots := 0, locals := 94 }
set_option maxHeartbeats 4000000 in
theorem tX_layers {l : Launch} {g : ZG} {X : ZB} {N : ZB} {T : ZB} {Rd : ZB} {Fr : ZB} {Ac : ZA} {Ch : ZB} {PS : ZB} {Ly : ZB} {Pa : ZQ} {OT : ZB} {Ea : ZB} {Ga : ZB} {Im0 : ZO} {Im1 : ZO}  {r : Int × ZB × ZB} (h : fX_layers N PS Ly = some r) : zMi l yX11_layers cX11_layers 1 (some .int) zrX_layers g [.ref (g.2.2 0)] (wX g X N T Rd Fr Ac Ch PS Ly Pa OT Ea Ga Im0 Im1) (wX g X N T Rd Fr Ac Ch r.2.1 r.2.2 Pa OT Ea Ga Im0 Im1) (zI r.1) := by
  unfold fX_layers at h
  refine zMi_q (own := RX11) rfl (by decide +kernel) (Nat.le_of_ble_eq_true rfl) (lv := [(0, .ref (g.2.2 0))]) rfl ⟨rfl, rfl⟩ ?_
  intro p e s m args below meth c A Q hQ cx
  refine z_aload_n cx d_X11_layers_0 1 rfl rfl 0 rfl ?_
  refine z_get cx d_X11_layers_1 4 rfl e_X rfl zX11 6 (by decide) q_543 rfl rfl ?_
  refine y_callV_i (As := []) (rest := []) (W := fun u_1 => wX g X N T Rd Fr Ac Ch u_1.2.1 u_1.2.2 Pa OT Ea Ga Im0 Im1) (rf := fun u_1 => zI u_1.1) (rm := zrLy_melt) cx (fun _ hq => tLy_melt hq) d_X11_layers_4 7 rfl kk_X4_melt q_1169 q_1170 q_1171 rfl e_Ly rfl ⟨rfl, rfl⟩ ⟨Nat.le_of_ble_eq_true rfl, Nat.le_of_ble_eq_true rfl⟩ rfl rfl (Nat.le_of_ble_eq_true rfl) ⟨Nat.zero_le _, Nat.zero_le _⟩ h (fun u_1 h => ?_)
  subst hQ
  obtain rfl := Option.some.inj h
  exact z_iret cx d_X11_layers_7 rfl rfl
def zrX_layerAt : Room := { frames := 4, cells := 0, slots := 0, locals := 94 }
set_option maxHeartbeats 4000000 in
theorem tX_layerAt {l : Launch} {g : ZG} {X : ZB} {N : ZB} {T : ZB} {Rd : ZB} {Fr : ZB} {Ac : ZA} {Ch : ZB} {PS : ZB} {Ly : ZB} {Pa : ZQ} {OT : ZB} {Ea : ZB} {Ga : ZB} {Im0 : ZO} {Im1 : ZO} {a1 : Int} {a2 : Int} {r : Int × ZB × ZB} (h : fX_layerAt N PS Ly a1 a2 = some r) : zMi l yX11_layerAt cX11_layerAt 3 (some .int) zrX_layerAt g [.ref (g.2.2 0), .int (zI a1), .int (zI a2)] (wX g X N T Rd Fr Ac Ch PS Ly Pa OT Ea Ga Im0 Im1) (wX g X N T Rd Fr Ac Ch r.2.1 r.2.2 Pa OT Ea Ga Im0 Im1) (zI r.1) := by
  unfold fX_layerAt at h
  refine zMi_q (own := RX11) rfl (by decide +kernel) (Nat.le_of_ble_eq_true rfl) (lv := [(0, .ref (g.2.2 0)), (1, .int (zI a1)), (2, .int (zI a2))]) rfl ⟨rfl, rfl⟩ ?_
  intro p e s m args below meth c A Q hQ cx
  refine z_iload_n cx d_X11_layerAt_0 1 rfl rfl 1 rfl ?_
  refine kf2_f (P := fun (PS_1 : ZB) (Ly_2 : ZB) => V p l e zrX_layerAt s m args below meth c A s.heap g 3 Q (wX g X N T Rd Fr Ac Ch PS_1 Ly_2 Pa OT Ea Ga Im0 Im1) 0 0 [] 24 []) h (fun PS_1 Ly_2 h => ?_) (fun k_3 hk_3 h => ?_)
  · refine y_iconst cx d_X11_layerAt_24 25 rfl ?_
    subst hQ
    obtain rfl := Option.some.inj h
    exact z_iret cx d_X11_layerAt_25 rfl rfl
  refine y_if_lt cx d_X11_layerAt_1 4 rfl 24 (by decide) rfl h (fun h => ?_) (fun h => ?_)
  · refine z_sub [] rfl ?_
    exact hk_3 _ _ h
  · refine z_iload_n cx d_X11_layerAt_4 5 rfl rfl 1 rfl ?_
    refine z_aload_n cx d_X11_layerAt_5 6 rfl rfl 0 rfl ?_
    refine z_get cx d_X11_layerAt_6 9 rfl e_X rfl zX11 6 (by decide) q_543 rfl rfl ?_
    refine y_callV_i (As := []) (rest := [.int (zI a1)]) (W := fun u_4 => wX g X N T Rd Fr Ac Ch u_4.2.1 u_4.2.2 Pa OT Ea Ga Im0 Im1) (rf := fun u_4 => zI u_4.1) (rm := zrLy_melt) cx (fun _ hq => tLy_melt hq) d_X11_layerAt_9 12 rfl kk_X4_melt q_1169 q_1170 q_1171 rfl e_Ly rfl ⟨rfl, rfl⟩ ⟨Nat.le_of_ble_eq_true rfl, Nat.le_of_ble_eq_true rfl⟩ rfl rfl (Nat.le_of_ble_eq_true rfl) ⟨Nat.zero_le _, Nat.zero_le _⟩ h (fun u_4 h => ?_)
    refine y_icmp_ge cx d_X11_layerAt_12 15 rfl 24 (by decide) rfl rfl h (fun h => ?_) (fun h => ?_)
    · refine z_sub [] rfl ?_
      exact hk_3 _ _ h
    · refine z_iload_n cx d_X11_layerAt_15 16 rfl rfl 2 rfl ?_
      refine y_if_lt cx d_X11_layerAt_16 19 rfl 24 (by decide) rfl h (fun h => ?_) (fun h => ?_)
      · refine z_sub [] rfl ?_
        exact hk_3 _ _ h
      · refine z_iload_n cx d_X11_layerAt_19 20 rfl rfl 2 rfl ?_
        refine y_iconst cx d_X11_layerAt_20 21 rfl ?_
        refine y_icmp_le cx d_X11_layerAt_21 24 rfl 26 (by decide) rfl (nm_eq (x := 2) (by decide) (by decide)) h (fun h => ?_) (fun h => ?_)
        · refine z_iload_n cx d_X11_layerAt_26 27 rfl rfl 2 rfl ?_
          refine y_iconst cx d_X11_layerAt_27 28 rfl ?_
          refine y_icmp_ne cx d_X11_layerAt_28 31 rfl 40 (by decide) rfl (nm_eq (x := 2) (by decide) (by decide)) h (fun h => ?_) (fun h => ?_)
          · refine z_aload_n cx d_X11_layerAt_40 41 rfl rfl 0 rfl ?_
            refine z_get cx d_X11_layerAt_41 44 rfl e_X rfl zX11 6 (by decide) q_543 rfl rfl ?_
            refine z_iload_n cx d_X11_layerAt_44 45 rfl rfl 1 rfl ?_
            refine y_callV_i (As := [.int (zI a1)]) (rest := []) (W := fun u_5 => wX g X N T Rd Fr Ac Ch u_4.2.1 u_4.2.2 Pa OT Ea Ga Im0 Im1) (rf := fun u_5 => zI u_5) (rm := zr0) cx (fun _ hq => tLy_aboveAt hq) d_X11_layerAt_45 48 rfl kk_X4_aboveAt q_1196 q_1197 q_1198 rfl e_Ly rfl ⟨rfl, rfl⟩ ⟨Nat.le_of_ble_eq_true rfl, Nat.le_of_ble_eq_true rfl⟩ rfl rfl (Nat.le_of_ble_eq_true rfl) ⟨Nat.zero_le _, Nat.zero_le _⟩ h (fun u_5 h => ?_)
            refine z_aload_n cx d_X11_layerAt_48 49 rfl rfl 0 rfl ?_
            refine z_get cx d_X11_layerAt_49 52 rfl e_X rfl zX11 6 (by decide) q_543 rfl rfl ?_
            refine z_iload_n cx d_X11_layerAt_52 53 rfl rfl 1 rfl ?_
            refine y_callV_i (As := [.int (zI a1)]) (rest := [.int (zI u_5)]) (W := fun u_6 => wX g X N T Rd Fr Ac Ch u_4.2.1 u_4.2.2 Pa OT Ea Ga Im0 Im1) (rf := fun u_6 => zI u_6) (rm := zr0) cx (fun _ hq => tLy_belowAt hq) d_X11_layerAt_53 56 rfl kk_X4_belowAt q_1200 q_1201 q_1202 rfl e_Ly rfl ⟨rfl, rfl⟩ ⟨Nat.le_of_ble_eq_true rfl, Nat.le_of_ble_eq_true rfl⟩ rfl rfl (Nat.le_of_ble_eq_true rfl) ⟨Nat.zero_le _, Nat.zero_le _⟩ h (fun u_6 h => ?_)
            refine z_iload_n cx d_X11_layerAt_56 57 rfl rfl 2 rfl ?_
            refine y_callS_i (As := [.int (zI u_5), .int (zI u_6), .int (zI a2)]) (rest := []) (W := fun u_7 => wX g X N T Rd Fr Ac Ch u_4.2.1 u_4.2.2 Pa OT Ea Ga Im0 Im1) (rf := fun u_7 => zI u_7) (rm := zr0) cx (fun _ hq => tX_leastTerms hq) d_X11_layerAt_57 60 rfl kk_X11_leastTerms q_1055 q_1056 ⟨rfl, rfl⟩ ⟨Nat.le_of_ble_eq_true rfl, Nat.le_of_ble_eq_true rfl⟩ rfl rfl (Nat.le_of_ble_eq_true rfl) ⟨Nat.zero_le _, Nat.zero_le _⟩ h (fun u_7 h => ?_)
            subst hQ
            obtain rfl := Option.some.inj h
            exact z_iret cx d_X11_layerAt_60 rfl rfl
          · refine z_aload_n cx d_X11_layerAt_31 32 rfl rfl 0 rfl ?_
            refine z_get cx d_X11_layerAt_32 35 rfl e_X rfl zX11 6 (by decide) q_543 rfl rfl ?_
            refine z_iload_n cx d_X11_layerAt_35 36 rfl rfl 1 rfl ?_
            refine y_callV_i (As := [.int (zI a1)]) (rest := []) (W := fun u_8 => wX g X N T Rd Fr Ac Ch u_4.2.1 u_4.2.2 Pa OT Ea Ga Im0 Im1) (rf := fun u_8 => zI u_8) (rm := zr0) cx (fun _ hq => tLy_setAt hq) d_X11_layerAt_36 39 rfl kk_X4_setAt q_1192 q_1193 q_1194 rfl e_Ly rfl ⟨rfl, rfl⟩ ⟨Nat.le_of_ble_eq_true rfl, Nat.le_of_ble_eq_true rfl⟩ rfl rfl (Nat.le_of_ble_eq_true rfl) ⟨Nat.zero_le _, Nat.zero_le _⟩ h (fun u_8 h => ?_)
            subst hQ
            obtain rfl := Option.some.inj h
            exact z_iret cx d_X11_layerAt_39 rfl rfl
        · refine z_sub [] rfl ?_
          exact hk_3 _ _ h
def zrX_light : Room := { frames := 4, cells := 0, slots := 0, locals := 91 }
set_option maxHeartbeats 4000000 in
theorem tX_light {l : Launch} {g : ZG} {X : ZB} {N : ZB} {T : ZB} {Rd : ZB} {Fr : ZB} {Ac : ZA} {Ch : ZB} {PS : ZB} {Ly : ZB} {Pa : ZQ} {OT : ZB} {Ea : ZB} {Ga : ZB} {Im0 : ZO} {Im1 : ZO} {a1 : Int} {a2 : Int} {r : Int × ZB} (h : fX_light N PS a1 a2 = some r) : zMi l yX11_light cX11_light 4 (some .int) zrX_light g [.ref (g.2.2 0), .int (zI a1), .int (zI a2)] (wX g X N T Rd Fr Ac Ch PS Ly Pa OT Ea Ga Im0 Im1) (wX g X N T Rd Fr Ac Ch r.2 Ly Pa OT Ea Ga Im0 Im1) (zI r.1) := by
  unfold fX_light at h
  refine zMi_q (own := RX11) rfl (by decide +kernel) (Nat.le_of_ble_eq_true rfl) (lv := [(0, .ref (g.2.2 0)), (1, .int (zI a1)), (2, .int (zI a2))]) rfl ⟨rfl, rfl⟩ ?_
  intro p e s m args below meth c A Q hQ cx
  refine z_iload_n cx d_X11_light_0 1 rfl rfl 1 rfl ?_
  refine kf0_f (P := V p l e zrX_light s m args below meth c A s.heap g 4 Q (wX g X N T Rd Fr Ac Ch PS Ly Pa OT Ea Ga Im0 Im1) 0 0 [] 19 []) h (fun h => ?_) (fun k_1 hk_1 h => ?_)
  · refine y_iconst cx d_X11_light_19 20 rfl ?_
    subst hQ
    obtain rfl := Option.some.inj h
    exact z_iret cx d_X11_light_20 rfl rfl
  refine y_if_lt cx d_X11_light_1 4 rfl 19 (by decide) rfl h (fun h => ?_) (fun h => ?_)
  · refine z_sub [] rfl ?_
    exact hk_1  h
  · refine z_iload_n cx d_X11_light_4 5 rfl rfl 1 rfl ?_
    refine y_bipush cx d_X11_light_5 7 rfl (by decide) ?_
    refine y_icmp_gt cx d_X11_light_7 10 rfl 19 (by decide) rfl (nm_eq (x := 24) (by decide) (by decide)) h (fun h => ?_) (fun h => ?_)
    · refine z_sub [] rfl ?_
      exact hk_1  h
    · refine z_iload_n cx d_X11_light_10 11 rfl rfl 2 rfl ?_
      refine y_if_lt cx d_X11_light_11 14 rfl 19 (by decide) rfl h (fun h => ?_) (fun h => ?_)
      · refine z_sub [] rfl ?_
        exact hk_1  h
      · refine z_iload_n cx d_X11_light_14 15 rfl rfl 2 rfl ?_
        refine y_iconst cx d_X11_light_15 16 rfl ?_
        refine y_icmp_le cx d_X11_light_16 19 rfl 21 (by decide) rfl (nm_eq (x := 1) (by decide) (by decide)) h (fun h => ?_) (fun h => ?_)
        · refine z_aload_n cx d_X11_light_21 22 rfl rfl 0 rfl ?_
          refine z_get cx d_X11_light_22 25 rfl e_X rfl zX11 5 (by decide) q_542 rfl rfl ?_
          refine z_iload_n cx d_X11_light_25 26 rfl rfl 1 rfl ?_
          refine y_callV_i (As := [.int (zI a1)]) (rest := []) (W := fun u_2 => wX g X N T Rd Fr Ac Ch u_2.2 Ly Pa OT Ea Ga Im0 Im1) (rf := fun u_2 => zI u_2.1) (rm := zrPS_takeByWeight) cx (fun _ hq => tPS_takeByWeight hq) d_X11_light_26 29 rfl kk_X8_takeByWeight q_1208 q_1209 q_1210 rfl e_PS rfl ⟨rfl, rfl⟩ ⟨Nat.le_of_ble_eq_true rfl, Nat.le_of_ble_eq_true rfl⟩ rfl rfl (Nat.le_of_ble_eq_true rfl) ⟨Nat.zero_le _, Nat.zero_le _⟩ h (fun u_2 h => ?_)
          refine y_istore_n cx d_X11_light_29 30 rfl rfl (by decide) (lv' := [(3, .int (zI u_2.1)), (0, .ref (g.2.2 0)), (1, .int (zI a1)), (2, .int (zI a2))]) rfl ?_
          refine z_iload_n cx d_X11_light_30 31 rfl rfl 3 rfl ?_
          refine y_iconst cx d_X11_light_31 32 rfl ?_
          refine kf1_f (P := fun (w0_3 : Int) => V p l e zrX_light s m args below meth c A s.heap g 4 Q (wX g X N T Rd Fr Ac Ch u_2.2 Ly Pa OT Ea Ga Im0 Im1) 0 0 [] 47 [.int (zI w0_3)]) h (fun w0_3 h => ?_) (fun k_4 hk_4 h => ?_)
          · subst hQ
            obtain rfl := Option.some.inj h
            exact z_iret cx d_X11_light_47 rfl rfl
          refine y_icmp_ne cx d_X11_light_32 35 rfl 39 (by decide) rfl (nm_eq (x := 1) (by decide) (by decide)) h (fun h => ?_) (fun h => ?_)
          · refine z_aload_n cx d_X11_light_39 40 rfl rfl 1 rfl ?_
            refine z_get cx d_X11_light_40 43 rfl e_X rfl zX11 0 (by decide) q_537 rfl rfl ?_
            refine z_iload_n cx d_X11_light_43 44 rfl rfl 0 rfl ?_
            refine y_callV_i (As := [.int (zI u_2.1)]) (rest := []) (W := fun u_5 => wX g X N T Rd Fr Ac Ch u_2.2 Ly Pa OT Ea Ga Im0 Im1) (rf := fun u_5 => zI u_5) (rm := zr0) cx (fun _ hq => tN_weightOf hq) d_X11_light_44 47 rfl kk_X5_weightOf q_1212 q_1213 q_1214 rfl e_N rfl ⟨rfl, rfl⟩ ⟨Nat.le_of_ble_eq_true rfl, Nat.le_of_ble_eq_true rfl⟩ rfl rfl (Nat.le_of_ble_eq_true rfl) ⟨Nat.zero_le _, Nat.zero_le _⟩ h (fun u_5 h => ?_)
            refine z_sub [] rfl ?_
            exact hk_4 _ h
          · refine z_iload_n cx d_X11_light_35 36 rfl rfl 0 rfl ?_
            refine z_goto cx d_X11_light_36 47 (by decide) ?_
            refine z_sub [] rfl ?_
            exact hk_4 _ h
        · refine z_sub [] rfl ?_
          exact hk_1  h
