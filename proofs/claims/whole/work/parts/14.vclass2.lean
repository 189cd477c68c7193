-- needs: 06.world 07.fun 08.links5 09.dec1 09.dec2 09.dec3 09.dec4 10.vsmall 11.vsets 12.vways 13.vread 14.vclass1
def zrX_trade : Room := { frames := 4, cells := 0, slots := 0, locals := 140 }
set_option maxHeartbeats 4000000 in
theorem tX_trade {l : Launch} {g : ZG} {X : ZB} {N : ZB} {T : ZB} {Rd : ZB} {Fr : ZB} {Ac : ZA} {Ch : ZB} {PS : ZB} {Ly : ZB} {Pa : ZQ} {OT : ZB} {Ea : ZB} {Ga : ZB} {Im0 : ZO} {Im1 : ZO} {a1 : Int} {a2 : Int} {r : Int × ZB × ZA × ZB} (h : fX_trade N Ac Ch a1 a2 = some r) : zMi l yX11_trade cX11_trade 4 (some .int) zrX_trade g [.ref (g.2.2 0), .int (zI a1), .int (zI a2)] (wX g X N T Rd Fr Ac Ch PS Ly Pa OT Ea Ga Im0 Im1) (wX g X r.2.1 T Rd Fr r.2.2.1 r.2.2.2 PS Ly Pa OT Ea Ga Im0 Im1) (zI r.1) := by
  unfold fX_trade at h
  refine zMi_q (own := RX11) rfl (by decide +kernel) (Nat.le_of_ble_eq_true rfl) (lv := [(0, .ref (g.2.2 0)), (1, .int (zI a1)), (2, .int (zI a2))]) rfl ⟨rfl, rfl⟩ ?_
  intro p e s m args below meth c A Q hQ cx
  refine z_aload_n cx d_X11_trade_0 1 rfl rfl 0 rfl ?_
  refine z_get cx d_X11_trade_1 4 rfl e_X rfl zX11 0 (by decide) q_537 rfl rfl ?_
  refine z_iload_n cx d_X11_trade_4 5 rfl rfl 1 rfl ?_
  refine y_callV_i (As := [.int (zI a1)]) (rest := []) (W := fun u_1 => wX g X N T Rd Fr Ac Ch PS Ly Pa OT Ea Ga Im0 Im1) (rf := fun u_1 => zI u_1) (rm := zr0) cx (fun _ hq => tN_hasLine hq) d_X11_trade_5 8 rfl kk_X5_hasLine q_772 q_773 q_774 rfl e_N rfl ⟨rfl, rfl⟩ ⟨Nat.le_of_ble_eq_true rfl, Nat.le_of_ble_eq_true rfl⟩ rfl rfl (Nat.le_of_ble_eq_true rfl) ⟨Nat.zero_le _, Nat.zero_le _⟩ h (fun u_1 h => ?_)
  refine kf0_f (P := V p l e zrX_trade s m args below meth c A s.heap g 4 Q (wX g X N T Rd Fr Ac Ch PS Ly Pa OT Ea Ga Im0 Im1) 0 0 [] 22 []) h (fun h => ?_) (fun k_2 hk_2 h => ?_)
  · refine y_iconst cx d_X11_trade_22 23 rfl ?_
    subst hQ
    obtain rfl := Option.some.inj h
    exact z_iret cx d_X11_trade_23 rfl rfl
  refine y_if_eq cx d_X11_trade_8 11 rfl 22 (by decide) rfl h (fun h => ?_) (fun h => ?_)
  · refine z_sub [] rfl ?_
    exact hk_2  h
  · refine z_aload_n cx d_X11_trade_11 12 rfl rfl 0 rfl ?_
    refine z_get cx d_X11_trade_12 15 rfl e_X rfl zX11 0 (by decide) q_537 rfl rfl ?_
    refine z_iload_n cx d_X11_trade_15 16 rfl rfl 2 rfl ?_
    refine y_callV_i (As := [.int (zI a2)]) (rest := []) (W := fun u_3 => wX g X N T Rd Fr Ac Ch PS Ly Pa OT Ea Ga Im0 Im1) (rf := fun u_3 => zI u_3) (rm := zr0) cx (fun _ hq => tN_hasForest hq) d_X11_trade_16 19 rfl kk_X5_hasForest q_724 q_725 q_726 rfl e_N rfl ⟨rfl, rfl⟩ ⟨Nat.le_of_ble_eq_true rfl, Nat.le_of_ble_eq_true rfl⟩ rfl rfl (Nat.le_of_ble_eq_true rfl) ⟨Nat.zero_le _, Nat.zero_le _⟩ h (fun u_3 h => ?_)
    refine y_if_ne cx d_X11_trade_19 22 rfl 24 (by decide) rfl h (fun h => ?_) (fun h => ?_)
    · refine z_aload_n cx d_X11_trade_24 25 rfl rfl 0 rfl ?_
      refine z_get cx d_X11_trade_25 28 rfl e_X rfl zX11 4 (by decide) q_541 rfl rfl ?_
      refine z_iload_n cx d_X11_trade_28 29 rfl rfl 1 rfl ?_
      refine z_iload_n cx d_X11_trade_29 30 rfl rfl 2 rfl ?_
      refine y_callV_i (As := [.int (zI a1), .int (zI a2)]) (rest := []) (W := fun u_4 => wX g X N T Rd Fr Ac u_4.2 PS Ly Pa OT Ea Ga Im0 Im1) (rf := fun u_4 => zI u_4.1) (rm := zrCh_traded) cx (fun _ hq => tCh_traded hq) d_X11_trade_30 33 rfl kk_X1_traded q_859 q_860 q_861 rfl e_Ch rfl ⟨rfl, rfl⟩ ⟨Nat.le_of_ble_eq_true rfl, Nat.le_of_ble_eq_true rfl⟩ rfl rfl (Nat.le_of_ble_eq_true rfl) ⟨Nat.zero_le _, Nat.zero_le _⟩ h (fun u_4 h => ?_)
      refine y_istore_n cx d_X11_trade_33 34 rfl rfl (by decide) (lv' := [(3, .int (zI u_4.1)), (0, .ref (g.2.2 0)), (1, .int (zI a1)), (2, .int (zI a2))]) rfl ?_
      refine z_iload_n cx d_X11_trade_34 35 rfl rfl 0 rfl ?_
      refine y_iconst cx d_X11_trade_35 36 rfl ?_
      refine kf2_f (P := fun (N_5 : ZB) (Ac_6 : ZA) => V p l e zrX_trade s m args below meth c A s.heap g 4 Q (wX g X N_5 T Rd Fr Ac_6 u_4.2 PS Ly Pa OT Ea Ga Im0 Im1) 0 0 [(3, .int (zI u_4.1))] 62 []) h (fun N_5 Ac_6 h => ?_) (fun k_7 hk_7 h => ?_)
      · refine z_iload_n cx d_X11_trade_62 63 rfl rfl 0 rfl ?_
        subst hQ
        obtain rfl := Option.some.inj h
        exact z_iret cx d_X11_trade_63 rfl rfl
      refine y_icmp_eq cx d_X11_trade_36 39 rfl 62 (by decide) rfl (nm_eq (x := (-1)) (by decide) (by decide)) h (fun h => ?_) (fun h => ?_)
      · refine z_sub [0] rfl ?_
        exact hk_7 _ _ h
      · refine z_aload_n cx d_X11_trade_39 40 rfl rfl 1 rfl ?_
        refine z_get cx d_X11_trade_40 43 rfl e_X rfl zX11 3 (by decide) q_540 rfl rfl ?_
        refine y_callV_v (As := []) (rest := []) (W := fun u_8 => wX g X N T Rd Fr u_8 u_4.2 PS Ly Pa OT Ea Ga Im0 Im1) (rm := zrAc_before) cx (fun _ hq => tAc_before hq) d_X11_trade_43 46 rfl kk_X0_before q_711 q_712 q_713 rfl e_Ac rfl ⟨rfl, rfl⟩ ⟨Nat.le_of_ble_eq_true rfl, Nat.le_of_ble_eq_true rfl⟩ rfl rfl (Nat.le_of_ble_eq_true rfl) ⟨Nat.zero_le _, Nat.zero_le _⟩ h (fun u_8 h => ?_)
        refine z_aload_n cx d_X11_trade_46 47 rfl rfl 1 rfl ?_
        refine z_get cx d_X11_trade_47 50 rfl e_X rfl zX11 4 (by decide) q_541 rfl rfl ?_
        refine z_iload_n cx d_X11_trade_50 51 rfl rfl 2 rfl ?_
        refine z_iload_n cx d_X11_trade_51 52 rfl rfl 0 rfl ?_
        refine y_callV_v (As := [.int (zI a1), .int (zI u_4.1)]) (rest := []) (W := fun u_9 => wX g X u_9 T Rd Fr u_8 u_4.2 PS Ly Pa OT Ea Ga Im0 Im1) (rm := zr0) cx (fun _ hq => tCh_swap hq) d_X11_trade_52 55 rfl kk_X1_swap q_869 q_870 q_871 rfl e_Ch rfl ⟨rfl, rfl⟩ ⟨Nat.le_of_ble_eq_true rfl, Nat.le_of_ble_eq_true rfl⟩ rfl rfl (Nat.le_of_ble_eq_true rfl) ⟨Nat.zero_le _, Nat.zero_le _⟩ h (fun u_9 h => ?_)
        refine z_aload_n cx d_X11_trade_55 56 rfl rfl 1 rfl ?_
        refine z_get cx d_X11_trade_56 59 rfl e_X rfl zX11 3 (by decide) q_540 rfl rfl ?_
        refine y_callV_v (As := []) (rest := []) (W := fun u_10 => wX g X u_9 T Rd Fr u_10 u_4.2 PS Ly Pa OT Ea Ga Im0 Im1) (rm := zr0) cx (fun _ hq => tAc_done hq) d_X11_trade_59 62 rfl kk_X0_done q_716 q_717 q_718 rfl e_Ac rfl ⟨rfl, rfl⟩ ⟨Nat.le_of_ble_eq_true rfl, Nat.le_of_ble_eq_true rfl⟩ rfl rfl (Nat.le_of_ble_eq_true rfl) ⟨Nat.zero_le _, Nat.zero_le _⟩ h (fun u_10 h => ?_)
        refine z_sub [0] rfl ?_
        exact hk_7 _ _ h
    · refine z_sub [] rfl ?_
      exact hk_2  h
def zrX_breaks : Room := { frames := 4, cells := 0, slots := 0, locals := 140 }
set_option maxHeartbeats 4000000 in
theorem tX_breaks {l : Launch} {g : ZG} {X : ZB} {N : ZB} {T : ZB} {Rd : ZB} {Fr : ZB} {Ac : ZA} {Ch : ZB} {PS : ZB} {Ly : ZB} {Pa : ZQ} {OT : ZB} {Ea : ZB} {Ga : ZB} {Im0 : ZO} {Im1 : ZO} {a1 : Int} {r : Int × ZB × ZA} (h : fX_breaks N Ac a1 = some r) : zMi l yX11_breaks cX11_breaks 2 (some .int) zrX_breaks g [.ref (g.2.2 0), .int (zI a1)] (wX g X N T Rd Fr Ac Ch PS Ly Pa OT Ea Ga Im0 Im1) (wX g X r.2.1 T Rd Fr r.2.2 Ch PS Ly Pa OT Ea Ga Im0 Im1) (zI r.1) := by
  unfold fX_breaks at h
  refine zMi_q (own := RX11) rfl (by decide +kernel) (Nat.le_of_ble_eq_true rfl) (lv := [(0, .ref (g.2.2 0)), (1, .int (zI a1))]) rfl ⟨rfl, rfl⟩ ?_
  intro p e s m args below meth c A Q hQ cx
  refine z_aload_n cx d_X11_breaks_0 1 rfl rfl 0 rfl ?_
  refine z_get cx d_X11_breaks_1 4 rfl e_X rfl zX11 0 (by decide) q_537 rfl rfl ?_
  refine z_iload_n cx d_X11_breaks_4 5 rfl rfl 1 rfl ?_
  refine y_callV_i (As := [.int (zI a1)]) (rest := []) (W := fun u_1 => wX g X N T Rd Fr Ac Ch PS Ly Pa OT Ea Ga Im0 Im1) (rf := fun u_1 => zI u_1) (rm := zr0) cx (fun _ hq => tN_hasLine hq) d_X11_breaks_5 8 rfl kk_X5_hasLine q_772 q_773 q_774 rfl e_N rfl ⟨rfl, rfl⟩ ⟨Nat.le_of_ble_eq_true rfl, Nat.le_of_ble_eq_true rfl⟩ rfl rfl (Nat.le_of_ble_eq_true rfl) ⟨Nat.zero_le _, Nat.zero_le _⟩ h (fun u_1 h => ?_)
  refine y_if_ne cx d_X11_breaks_8 11 rfl 13 (by decide) rfl h (fun h => ?_) (fun h => ?_)
  · refine z_aload_n cx d_X11_breaks_13 14 rfl rfl 0 rfl ?_
    refine z_get cx d_X11_breaks_14 17 rfl e_X rfl zX11 0 (by decide) q_537 rfl rfl ?_
    refine z_iload_n cx d_X11_breaks_17 18 rfl rfl 1 rfl ?_
    refine y_callV_i (As := [.int (zI a1)]) (rest := []) (W := fun u_2 => wX g X N T Rd Fr Ac Ch PS Ly Pa OT Ea Ga Im0 Im1) (rf := fun u_2 => zI u_2) (rm := zr0) cx (fun _ hq => tN_isSound hq) d_X11_breaks_18 21 rfl kk_X5_isSound q_780 q_781 q_782 rfl e_N rfl ⟨rfl, rfl⟩ ⟨Nat.le_of_ble_eq_true rfl, Nat.le_of_ble_eq_true rfl⟩ rfl rfl (Nat.le_of_ble_eq_true rfl) ⟨Nat.zero_le _, Nat.zero_le _⟩ h (fun u_2 h => ?_)
    refine y_if_ne cx d_X11_breaks_21 24 rfl 26 (by decide) rfl h (fun h => ?_) (fun h => ?_)
    · refine z_aload_n cx d_X11_breaks_26 27 rfl rfl 0 rfl ?_
      refine z_get cx d_X11_breaks_27 30 rfl e_X rfl zX11 3 (by decide) q_540 rfl rfl ?_
      refine y_callV_v (As := []) (rest := []) (W := fun u_3 => wX g X N T Rd Fr u_3 Ch PS Ly Pa OT Ea Ga Im0 Im1) (rm := zrAc_before) cx (fun _ hq => tAc_before hq) d_X11_breaks_30 33 rfl kk_X0_before q_711 q_712 q_713 rfl e_Ac rfl ⟨rfl, rfl⟩ ⟨Nat.le_of_ble_eq_true rfl, Nat.le_of_ble_eq_true rfl⟩ rfl rfl (Nat.le_of_ble_eq_true rfl) ⟨Nat.zero_le _, Nat.zero_le _⟩ h (fun u_3 h => ?_)
      refine z_aload_n cx d_X11_breaks_33 34 rfl rfl 0 rfl ?_
      refine z_get cx d_X11_breaks_34 37 rfl e_X rfl zX11 0 (by decide) q_537 rfl rfl ?_
      refine z_iload_n cx d_X11_breaks_37 38 rfl rfl 1 rfl ?_
      refine y_callV_v (As := [.int (zI a1)]) (rest := []) (W := fun u_4 => wX g X u_4 T Rd Fr u_3 Ch PS Ly Pa OT Ea Ga Im0 Im1) (rm := zr0) cx (fun _ hq => tN_breakLine hq) d_X11_breaks_38 41 rfl kk_X5_breakLine q_877 q_878 q_879 rfl e_N rfl ⟨rfl, rfl⟩ ⟨Nat.le_of_ble_eq_true rfl, Nat.le_of_ble_eq_true rfl⟩ rfl rfl (Nat.le_of_ble_eq_true rfl) ⟨Nat.zero_le _, Nat.zero_le _⟩ h (fun u_4 h => ?_)
      refine z_aload_n cx d_X11_breaks_41 42 rfl rfl 0 rfl ?_
      refine z_get cx d_X11_breaks_42 45 rfl e_X rfl zX11 3 (by decide) q_540 rfl rfl ?_
      refine y_callV_v (As := []) (rest := []) (W := fun u_5 => wX g X u_4 T Rd Fr u_5 Ch PS Ly Pa OT Ea Ga Im0 Im1) (rm := zr0) cx (fun _ hq => tAc_done hq) d_X11_breaks_45 48 rfl kk_X0_done q_716 q_717 q_718 rfl e_Ac rfl ⟨rfl, rfl⟩ ⟨Nat.le_of_ble_eq_true rfl, Nat.le_of_ble_eq_true rfl⟩ rfl rfl (Nat.le_of_ble_eq_true rfl) ⟨Nat.zero_le _, Nat.zero_le _⟩ h (fun u_5 h => ?_)
      refine y_iconst cx d_X11_breaks_48 49 rfl ?_
      subst hQ
      obtain rfl := Option.some.inj h
      exact z_iret cx d_X11_breaks_49 rfl rfl
    · refine y_iconst cx d_X11_breaks_24 25 rfl ?_
      subst hQ
      obtain rfl := Option.some.inj h
      exact z_iret cx d_X11_breaks_25 rfl rfl
  · refine y_iconst cx d_X11_breaks_11 12 rfl ?_
    subst hQ
    obtain rfl := Option.some.inj h
    exact z_iret cx d_X11_breaks_12 rfl rfl
def zrX_mend : Room := { frames := 4, cells := 0, slots := 0, locals := 140 }
set_option maxHeartbeats 4000000 in
theorem tX_mend {l : Launch} {g : ZG} {X : ZB} {N : ZB} {T : ZB} {Rd : ZB} {Fr : ZB} {Ac : ZA} {Ch : ZB} {PS : ZB} {Ly : ZB} {Pa : ZQ} {OT : ZB} {Ea : ZB} {Ga : ZB} {Im0 : ZO} {Im1 : ZO} {a1 : Int} {r : Int × ZB × ZA} (h : fX_mend N Ac a1 = some r) : zMi l yX11_mend cX11_mend 2 (some .int) zrX_mend g [.ref (g.2.2 0), .int (zI a1)] (wX g X N T Rd Fr Ac Ch PS Ly Pa OT Ea Ga Im0 Im1) (wX g X r.2.1 T Rd Fr r.2.2 Ch PS Ly Pa OT Ea Ga Im0 Im1) (zI r.1) := by
  unfold fX_mend at h
  refine zMi_q (own := RX11) rfl (by decide +kernel) (Nat.le_of_ble_eq_true rfl) (lv := [(0, .ref (g.2.2 0)), (1, .int (zI a1))]) rfl ⟨rfl, rfl⟩ ?_
  intro p e s m args below meth c A Q hQ cx
  refine z_aload_n cx d_X11_mend_0 1 rfl rfl 0 rfl ?_
  refine z_get cx d_X11_mend_1 4 rfl e_X rfl zX11 0 (by decide) q_537 rfl rfl ?_
  refine z_iload_n cx d_X11_mend_4 5 rfl rfl 1 rfl ?_
  refine y_callV_i (As := [.int (zI a1)]) (rest := []) (W := fun u_1 => wX g X N T Rd Fr Ac Ch PS Ly Pa OT Ea Ga Im0 Im1) (rf := fun u_1 => zI u_1) (rm := zr0) cx (fun _ hq => tN_hasLine hq) d_X11_mend_5 8 rfl kk_X5_hasLine q_772 q_773 q_774 rfl e_N rfl ⟨rfl, rfl⟩ ⟨Nat.le_of_ble_eq_true rfl, Nat.le_of_ble_eq_true rfl⟩ rfl rfl (Nat.le_of_ble_eq_true rfl) ⟨Nat.zero_le _, Nat.zero_le _⟩ h (fun u_1 h => ?_)
  refine y_if_ne cx d_X11_mend_8 11 rfl 13 (by decide) rfl h (fun h => ?_) (fun h => ?_)
  · refine z_aload_n cx d_X11_mend_13 14 rfl rfl 0 rfl ?_
    refine z_get cx d_X11_mend_14 17 rfl e_X rfl zX11 0 (by decide) q_537 rfl rfl ?_
    refine z_iload_n cx d_X11_mend_17 18 rfl rfl 1 rfl ?_
    refine y_callV_i (As := [.int (zI a1)]) (rest := []) (W := fun u_2 => wX g X N T Rd Fr Ac Ch PS Ly Pa OT Ea Ga Im0 Im1) (rf := fun u_2 => zI u_2) (rm := zr0) cx (fun _ hq => tN_isSound hq) d_X11_mend_18 21 rfl kk_X5_isSound q_780 q_781 q_782 rfl e_N rfl ⟨rfl, rfl⟩ ⟨Nat.le_of_ble_eq_true rfl, Nat.le_of_ble_eq_true rfl⟩ rfl rfl (Nat.le_of_ble_eq_true rfl) ⟨Nat.zero_le _, Nat.zero_le _⟩ h (fun u_2 h => ?_)
    refine y_if_eq cx d_X11_mend_21 24 rfl 26 (by decide) rfl h (fun h => ?_) (fun h => ?_)
    · refine z_aload_n cx d_X11_mend_26 27 rfl rfl 0 rfl ?_
      refine z_get cx d_X11_mend_27 30 rfl e_X rfl zX11 3 (by decide) q_540 rfl rfl ?_
      refine y_callV_v (As := []) (rest := []) (W := fun u_3 => wX g X N T Rd Fr u_3 Ch PS Ly Pa OT Ea Ga Im0 Im1) (rm := zrAc_before) cx (fun _ hq => tAc_before hq) d_X11_mend_30 33 rfl kk_X0_before q_711 q_712 q_713 rfl e_Ac rfl ⟨rfl, rfl⟩ ⟨Nat.le_of_ble_eq_true rfl, Nat.le_of_ble_eq_true rfl⟩ rfl rfl (Nat.le_of_ble_eq_true rfl) ⟨Nat.zero_le _, Nat.zero_le _⟩ h (fun u_3 h => ?_)
      refine z_aload_n cx d_X11_mend_33 34 rfl rfl 0 rfl ?_
      refine z_get cx d_X11_mend_34 37 rfl e_X rfl zX11 0 (by decide) q_537 rfl rfl ?_
      refine z_iload_n cx d_X11_mend_37 38 rfl rfl 1 rfl ?_
      refine y_callV_v (As := [.int (zI a1)]) (rest := []) (W := fun u_4 => wX g X u_4 T Rd Fr u_3 Ch PS Ly Pa OT Ea Ga Im0 Im1) (rm := zr0) cx (fun _ hq => tN_mendLine hq) d_X11_mend_38 41 rfl kk_X5_mendLine q_885 q_886 q_887 rfl e_N rfl ⟨rfl, rfl⟩ ⟨Nat.le_of_ble_eq_true rfl, Nat.le_of_ble_eq_true rfl⟩ rfl rfl (Nat.le_of_ble_eq_true rfl) ⟨Nat.zero_le _, Nat.zero_le _⟩ h (fun u_4 h => ?_)
      refine z_aload_n cx d_X11_mend_41 42 rfl rfl 0 rfl ?_
      refine z_get cx d_X11_mend_42 45 rfl e_X rfl zX11 3 (by decide) q_540 rfl rfl ?_
      refine y_callV_v (As := []) (rest := []) (W := fun u_5 => wX g X u_4 T Rd Fr u_5 Ch PS Ly Pa OT Ea Ga Im0 Im1) (rm := zr0) cx (fun _ hq => tAc_done hq) d_X11_mend_45 48 rfl kk_X0_done q_716 q_717 q_718 rfl e_Ac rfl ⟨rfl, rfl⟩ ⟨Nat.le_of_ble_eq_true rfl, Nat.le_of_ble_eq_true rfl⟩ rfl rfl (Nat.le_of_ble_eq_true rfl) ⟨Nat.zero_le _, Nat.zero_le _⟩ h (fun u_5 h => ?_)
      refine y_iconst cx d_X11_mend_48 49 rfl ?_
      subst hQ
      obtain rfl := Option.some.inj h
      exact z_iret cx d_X11_mend_49 rfl rfl
    · refine y_iconst cx d_X11_mend_24 25 rfl ?_
      subst hQ
      obtain rfl := Option.some.inj h
      exact z_iret cx d_X11_mend_25 rfl rfl
  · refine y_iconst cx d_X11_mend_11 12 rfl ?_
    subst hQ
    obtain rfl := Option.some.inj h
    exact z_iret cx d_X11_mend_12 rfl rfl
def zrX_weigh : Room := { frames := 4, cells := 0, slots := 0, locals := 140 }
set_option maxHeartbeats 4000000 in
theorem tX_weigh {l : Launch} {g : ZG} {X : ZB} {N : ZB} {T : ZB} {Rd : ZB} {Fr : ZB} {Ac : ZA} {Ch : ZB} {PS : ZB} {Ly : ZB} {Pa : ZQ} {OT : ZB} {Ea : ZB} {Ga : ZB} {Im0 : ZO} {Im1 : ZO} {a1 : Int} {a2 : Int} {r : Int × ZB × ZA} (h : fX_weigh N Ac a1 a2 = some r) : zMi l yX11_weigh cX11_weigh 3 (some .int) zrX_weigh g [.ref (g.2.2 0), .int (zI a1), .int (zI a2)] (wX g X N T Rd Fr Ac Ch PS Ly Pa OT Ea Ga Im0 Im1) (wX g X r.2.1 T Rd Fr r.2.2 Ch PS Ly Pa OT Ea Ga Im0 Im1) (zI r.1) := by
  unfold fX_weigh at h
  refine zMi_q (own := RX11) rfl (by decide +kernel) (Nat.le_of_ble_eq_true rfl) (lv := [(0, .ref (g.2.2 0)), (1, .int (zI a1)), (2, .int (zI a2))]) rfl ⟨rfl, rfl⟩ ?_
  intro p e s m args below meth c A Q hQ cx
  refine z_aload_n cx d_X11_weigh_0 1 rfl rfl 0 rfl ?_
  refine z_get cx d_X11_weigh_1 4 rfl e_X rfl zX11 0 (by decide) q_537 rfl rfl ?_
  refine z_iload_n cx d_X11_weigh_4 5 rfl rfl 1 rfl ?_
  refine y_callV_i (As := [.int (zI a1)]) (rest := []) (W := fun u_1 => wX g X N T Rd Fr Ac Ch PS Ly Pa OT Ea Ga Im0 Im1) (rf := fun u_1 => zI u_1) (rm := zr0) cx (fun _ hq => tN_hasLine hq) d_X11_weigh_5 8 rfl kk_X5_hasLine q_772 q_773 q_774 rfl e_N rfl ⟨rfl, rfl⟩ ⟨Nat.le_of_ble_eq_true rfl, Nat.le_of_ble_eq_true rfl⟩ rfl rfl (Nat.le_of_ble_eq_true rfl) ⟨Nat.zero_le _, Nat.zero_le _⟩ h (fun u_1 h => ?_)
  refine kf0_f (P := V p l e zrX_weigh s m args below meth c A s.heap g 3 Q (wX g X N T Rd Fr Ac Ch PS Ly Pa OT Ea Ga Im0 Im1) 0 0 [] 22 []) h (fun h => ?_) (fun k_2 hk_2 h => ?_)
  · refine y_iconst cx d_X11_weigh_22 23 rfl ?_
    subst hQ
    obtain rfl := Option.some.inj h
    exact z_iret cx d_X11_weigh_23 rfl rfl
  refine y_if_eq cx d_X11_weigh_8 11 rfl 22 (by decide) rfl h (fun h => ?_) (fun h => ?_)
  · refine z_sub [] rfl ?_
    exact hk_2  h
  · refine z_iload_n cx d_X11_weigh_11 12 rfl rfl 2 rfl ?_
    refine y_iconst cx d_X11_weigh_12 13 rfl ?_
    refine y_icmp_lt cx d_X11_weigh_13 16 rfl 22 (by decide) rfl (nm_eq (x := 1) (by decide) (by decide)) h (fun h => ?_) (fun h => ?_)
    · refine z_sub [] rfl ?_
      exact hk_2  h
    · refine z_iload_n cx d_X11_weigh_16 17 rfl rfl 2 rfl ?_
      refine y_bipush cx d_X11_weigh_17 19 rfl (by decide) ?_
      refine y_icmp_le cx d_X11_weigh_19 22 rfl 24 (by decide) rfl (nm_eq (x := 99) (by decide) (by decide)) h (fun h => ?_) (fun h => ?_)
      · refine z_aload_n cx d_X11_weigh_24 25 rfl rfl 0 rfl ?_
        refine z_get cx d_X11_weigh_25 28 rfl e_X rfl zX11 0 (by decide) q_537 rfl rfl ?_
        refine z_get cx d_X11_weigh_28 31 rfl e_N rfl zX5 2 (by decide) q_163 rfl rfl ?_
        refine z_iload_n cx d_X11_weigh_31 32 rfl rfl 1 rfl ?_
        refine y_ialdx cx d_X11_weigh_32 33 rfl e_N_weight (by decide) h (fun x_3 h => ?_)
        refine z_iload_n cx d_X11_weigh_33 34 rfl rfl 2 rfl ?_
        refine y_icmp_ne cx d_X11_weigh_34 37 rfl 39 (by decide) rfl rfl h (fun h => ?_) (fun h => ?_)
        · refine z_aload_n cx d_X11_weigh_39 40 rfl rfl 0 rfl ?_
          refine z_get cx d_X11_weigh_40 43 rfl e_X rfl zX11 3 (by decide) q_540 rfl rfl ?_
          refine y_callV_v (As := []) (rest := []) (W := fun u_4 => wX g X N T Rd Fr u_4 Ch PS Ly Pa OT Ea Ga Im0 Im1) (rm := zrAc_before) cx (fun _ hq => tAc_before hq) d_X11_weigh_43 46 rfl kk_X0_before q_711 q_712 q_713 rfl e_Ac rfl ⟨rfl, rfl⟩ ⟨Nat.le_of_ble_eq_true rfl, Nat.le_of_ble_eq_true rfl⟩ rfl rfl (Nat.le_of_ble_eq_true rfl) ⟨Nat.zero_le _, Nat.zero_le _⟩ h (fun u_4 h => ?_)
          refine z_aload_n cx d_X11_weigh_46 47 rfl rfl 0 rfl ?_
          refine z_get cx d_X11_weigh_47 50 rfl e_X rfl zX11 0 (by decide) q_537 rfl rfl ?_
          refine z_get cx d_X11_weigh_50 53 rfl e_N rfl zX5 2 (by decide) q_163 rfl rfl ?_
          refine z_iload_n cx d_X11_weigh_53 54 rfl rfl 1 rfl ?_
          refine z_iload_n cx d_X11_weigh_54 55 rfl rfl 2 rfl ?_
          refine y_iast cx d_X11_weigh_55 56 rfl e_N_weight (by decide) h (fun _ h9 => s_N_weight h9) (fun N_5 h => ?_)
          refine z_aload_n cx d_X11_weigh_56 57 rfl rfl 0 rfl ?_
          refine z_get cx d_X11_weigh_57 60 rfl e_X rfl zX11 3 (by decide) q_540 rfl rfl ?_
          refine y_callV_v (As := []) (rest := []) (W := fun u_6 => wX g X N_5 T Rd Fr u_6 Ch PS Ly Pa OT Ea Ga Im0 Im1) (rm := zr0) cx (fun _ hq => tAc_done hq) d_X11_weigh_60 63 rfl kk_X0_done q_716 q_717 q_718 rfl e_Ac rfl ⟨rfl, rfl⟩ ⟨Nat.le_of_ble_eq_true rfl, Nat.le_of_ble_eq_true rfl⟩ rfl rfl (Nat.le_of_ble_eq_true rfl) ⟨Nat.zero_le _, Nat.zero_le _⟩ h (fun u_6 h => ?_)
          refine y_iconst cx d_X11_weigh_63 64 rfl ?_
          subst hQ
          obtain rfl := Option.some.inj h
          exact z_iret cx d_X11_weigh_64 rfl rfl
        · refine y_iconst cx d_X11_weigh_37 38 rfl ?_
          subst hQ
          obtain rfl := Option.some.inj h
          exact z_iret cx d_X11_weigh_38 rfl rfl
      · refine z_sub [] rfl ?_
        exact hk_2  h
def zrX_turn : Room := { frames := 4, cells := 0, slots := 0, locals := 140 }
set_option maxHeartbeats 4000000 in
theorem tX_turn {l : Launch} {g : ZG} {X : ZB} {N : ZB} {T : ZB} {Rd : ZB} {Fr : ZB} {Ac : ZA} {Ch : ZB} {PS : ZB} {Ly : ZB} {Pa : ZQ} {OT : ZB} {Ea : ZB} {Ga : ZB} {Im0 : ZO} {Im1 : ZO} {a1 : Int} {r : Int × ZB × ZA} (h : fX_turn N Ac a1 = some r) : zMi l yX11_turn cX11_turn 2 (some .int) zrX_turn g [.ref (g.2.2 0), .int (zI a1)] (wX g X N T Rd Fr Ac Ch PS Ly Pa OT Ea Ga Im0 Im1) (wX g X r.2.1 T Rd Fr r.2.2 Ch PS Ly Pa OT Ea Ga Im0 Im1) (zI r.1) := by
  unfold fX_turn at h
  refine zMi_q (own := RX11) rfl (by decide +kernel) (Nat.le_of_ble_eq_true rfl) (lv := [(0, .ref (g.2.2 0)), (1, .int (zI a1))]) rfl ⟨rfl, rfl⟩ ?_
  intro p e s m args below meth c A Q hQ cx
  refine z_aload_n cx d_X11_turn_0 1 rfl rfl 0 rfl ?_
  refine z_get cx d_X11_turn_1 4 rfl e_X rfl zX11 0 (by decide) q_537 rfl rfl ?_
  refine z_iload_n cx d_X11_turn_4 5 rfl rfl 1 rfl ?_
  refine y_callV_i (As := [.int (zI a1)]) (rest := []) (W := fun u_1 => wX g X N T Rd Fr Ac Ch PS Ly Pa OT Ea Ga Im0 Im1) (rf := fun u_1 => zI u_1) (rm := zr0) cx (fun _ hq => tN_hasLine hq) d_X11_turn_5 8 rfl kk_X5_hasLine q_772 q_773 q_774 rfl e_N rfl ⟨rfl, rfl⟩ ⟨Nat.le_of_ble_eq_true rfl, Nat.le_of_ble_eq_true rfl⟩ rfl rfl (Nat.le_of_ble_eq_true rfl) ⟨Nat.zero_le _, Nat.zero_le _⟩ h (fun u_1 h => ?_)
  refine y_if_ne cx d_X11_turn_8 11 rfl 13 (by decide) rfl h (fun h => ?_) (fun h => ?_)
  · refine z_aload_n cx d_X11_turn_13 14 rfl rfl 0 rfl ?_
    refine z_get cx d_X11_turn_14 17 rfl e_X rfl zX11 3 (by decide) q_540 rfl rfl ?_
    refine y_callV_v (As := []) (rest := []) (W := fun u_2 => wX g X N T Rd Fr u_2 Ch PS Ly Pa OT Ea Ga Im0 Im1) (rm := zrAc_before) cx (fun _ hq => tAc_before hq) d_X11_turn_17 20 rfl kk_X0_before q_711 q_712 q_713 rfl e_Ac rfl ⟨rfl, rfl⟩ ⟨Nat.le_of_ble_eq_true rfl, Nat.le_of_ble_eq_true rfl⟩ rfl rfl (Nat.le_of_ble_eq_true rfl) ⟨Nat.zero_le _, Nat.zero_le _⟩ h (fun u_2 h => ?_)
    refine z_aload_n cx d_X11_turn_20 21 rfl rfl 0 rfl ?_
    refine z_get cx d_X11_turn_21 24 rfl e_X rfl zX11 0 (by decide) q_537 rfl rfl ?_
    refine z_iload_n cx d_X11_turn_24 25 rfl rfl 1 rfl ?_
    refine y_callV_v (As := [.int (zI a1)]) (rest := []) (W := fun u_3 => wX g X u_3 T Rd Fr u_2 Ch PS Ly Pa OT Ea Ga Im0 Im1) (rm := zr0) cx (fun _ hq => tN_turnLine hq) d_X11_turn_25 28 rfl kk_X5_turnLine q_897 q_898 q_899 rfl e_N rfl ⟨rfl, rfl⟩ ⟨Nat.le_of_ble_eq_true rfl, Nat.le_of_ble_eq_true rfl⟩ rfl rfl (Nat.le_of_ble_eq_true rfl) ⟨Nat.zero_le _, Nat.zero_le _⟩ h (fun u_3 h => ?_)
    refine z_aload_n cx d_X11_turn_28 29 rfl rfl 0 rfl ?_
    refine z_get cx d_X11_turn_29 32 rfl e_X rfl zX11 3 (by decide) q_540 rfl rfl ?_
    refine y_callV_v (As := []) (rest := []) (W := fun u_4 => wX g X u_3 T Rd Fr u_4 Ch PS Ly Pa OT Ea Ga Im0 Im1) (rm := zr0) cx (fun _ hq => tAc_done hq) d_X11_turn_32 35 rfl kk_X0_done q_716 q_717 q_718 rfl e_Ac rfl ⟨rfl, rfl⟩ ⟨Nat.le_of_ble_eq_true rfl, Nat.le_of_ble_eq_true rfl⟩ rfl rfl (Nat.le_of_ble_eq_true rfl) ⟨Nat.zero_le _, Nat.zero_le _⟩ h (fun u_4 h => ?_)
    refine z_aload_n cx d_X11_turn_35 36 rfl rfl 0 rfl ?_
    refine z_get cx d_X11_turn_36 39 rfl e_X rfl zX11 0 (by decide) q_537 rfl rfl ?_
    refine z_iload_n cx d_X11_turn_39 40 rfl rfl 1 rfl ?_
    refine y_callV_i (As := [.int (zI a1)]) (rest := []) (W := fun u_5 => wX g X u_3 T Rd Fr u_4 Ch PS Ly Pa OT Ea Ga Im0 Im1) (rf := fun u_5 => zI u_5) (rm := zr0) cx (fun _ hq => tN_tail hq) d_X11_turn_40 43 rfl kk_X5_tail q_901 q_902 q_903 rfl e_N rfl ⟨rfl, rfl⟩ ⟨Nat.le_of_ble_eq_true rfl, Nat.le_of_ble_eq_true rfl⟩ rfl rfl (Nat.le_of_ble_eq_true rfl) ⟨Nat.zero_le _, Nat.zero_le _⟩ h (fun u_5 h => ?_)
    subst hQ
    obtain rfl := Option.some.inj h
    exact z_iret cx d_X11_turn_43 rfl rfl
  · refine y_iconst cx d_X11_turn_11 12 rfl ?_
    subst hQ
    obtain rfl := Option.some.inj h
    exact z_iret cx d_X11_turn_12 rfl rfl
def zrX_load : Room := { frames := 2, cells := 0, slots := 0, locals := 44 }
set_option maxHeartbeats 4000000 in
theorem tX_load {l : Launch} {g : ZG} {X : ZB} {N : ZB} {T : ZB} {Rd : ZB} {Fr : ZB} {Ac : ZA} {Ch : ZB} {PS : ZB} {Ly : ZB} {Pa : ZQ} {OT : ZB} {Ea : ZB} {Ga : ZB} {Im0 : ZO} {Im1 : ZO} {a1 : Int} {r : Int} (h : fX_load N a1 = some r) : zMi l yX11_load cX11_load 2 (some .int) zrX_load g [.ref (g.2.2 0), .int (zI a1)] (wX g X N T Rd Fr Ac Ch PS Ly Pa OT Ea Ga Im0 Im1) (wX g X N T Rd Fr Ac Ch PS Ly Pa OT Ea Ga Im0 Im1) (zI r) := by
  unfold fX_load at h
  refine zMi_q (own := RX11) rfl (by decide +kernel) (Nat.le_of_ble_eq_true rfl) (lv := [(0, .ref (g.2.2 0)), (1, .int (zI a1))]) rfl ⟨rfl, rfl⟩ ?_
  intro p e s m args below meth c A Q hQ cx
  refine z_iload_n cx d_X11_load_0 1 rfl rfl 1 rfl ?_
  refine kf1_f (P := fun (w0_1 : Int) => V p l e zrX_load s m args below meth c A s.heap g 2 Q (wX g X N T Rd Fr Ac Ch PS Ly Pa OT Ea Ga Im0 Im1) 0 0 [] 27 [.int (zI w0_1)]) h (fun w0_1 h => ?_) (fun k_2 hk_2 h => ?_)
  · subst hQ
    obtain rfl := Option.some.inj h
    exact z_iret cx d_X11_load_27 rfl rfl
  refine kf0_f (P := V p l e zrX_load s m args below meth c A s.heap g 2 Q (wX g X N T Rd Fr Ac Ch PS Ly Pa OT Ea Ga Im0 Im1) 0 0 [] 15 []) h (fun h => ?_) (fun k_3 hk_3 h => ?_)
  · refine y_iconst cx d_X11_load_15 16 rfl ?_
    refine z_goto cx d_X11_load_16 27 (by decide) ?_
    exact hk_2 _ h
  refine y_if_lt cx d_X11_load_1 4 rfl 15 (by decide) rfl h (fun h => ?_) (fun h => ?_)
  · refine z_sub [] rfl ?_
    exact hk_3  h
  · refine z_iload_n cx d_X11_load_4 5 rfl rfl 1 rfl ?_
    refine z_aload_n cx d_X11_load_5 6 rfl rfl 0 rfl ?_
    refine z_get cx d_X11_load_6 9 rfl e_X rfl zX11 0 (by decide) q_537 rfl rfl ?_
    refine z_get cx d_X11_load_9 12 rfl e_N rfl zX5 4 (by decide) q_178 rfl rfl ?_
    refine y_icmp_lt cx d_X11_load_12 15 rfl 19 (by decide) rfl rfl h (fun h => ?_) (fun h => ?_)
    · refine z_aload_n cx d_X11_load_19 20 rfl rfl 0 rfl ?_
      refine z_get cx d_X11_load_20 23 rfl e_X rfl zX11 0 (by decide) q_537 rfl rfl ?_
      refine z_iload_n cx d_X11_load_23 24 rfl rfl 1 rfl ?_
      refine y_callV_i (As := [.int (zI a1)]) (rest := []) (W := fun u_4 => wX g X N T Rd Fr Ac Ch PS Ly Pa OT Ea Ga Im0 Im1) (rf := fun u_4 => zI u_4) (rm := zrN_loadOf) cx (fun _ hq => tN_loadOf hq) d_X11_load_24 27 rfl kk_X5_loadOf q_909 q_910 q_911 rfl e_N rfl ⟨rfl, rfl⟩ ⟨Nat.le_of_ble_eq_true rfl, Nat.le_of_ble_eq_true rfl⟩ rfl rfl (Nat.le_of_ble_eq_true rfl) ⟨Nat.zero_le _, Nat.zero_le _⟩ h (fun u_4 h => ?_)
      refine z_sub [] rfl ?_
      exact hk_2 _ h
    · refine z_sub [] rfl ?_
      exact hk_3  h
def zrX_ease : Room := { frames := 4, cells := 0, slots := 0, locals := 140 }
set_option maxHeartbeats 4000000 in
theorem tX_ease {l : Launch} {g : ZG} {X : ZB} {N : ZB} {T : ZB} {Rd : ZB} {Fr : ZB} {Ac : ZA} {Ch : ZB} {PS : ZB} {Ly : ZB} {Pa : ZQ} {OT : ZB} {Ea : ZB} {Ga : ZB} {Im0 : ZO} {Im1 : ZO}  {r : Int × ZB × ZA × ZB} (h : fX_ease N Ac Ea = some r) : zMi l yX11_ease cX11_ease 2 (some .int) zrX_ease g [.ref (g.2.2 0)] (wX g X N T Rd Fr Ac Ch PS Ly Pa OT Ea Ga Im0 Im1) (wX g X r.2.1 T Rd Fr r.2.2.1 Ch PS Ly Pa OT r.2.2.2 Ga Im0 Im1) (zI r.1) := by
  unfold fX_ease at h
  refine zMi_q (own := RX11) rfl (by decide +kernel) (Nat.le_of_ble_eq_true rfl) (lv := [(0, .ref (g.2.2 0))]) rfl ⟨rfl, rfl⟩ ?_
  intro p e s m args below meth c A Q hQ cx
  refine z_aload_n cx d_X11_ease_0 1 rfl rfl 0 rfl ?_
  refine z_get cx d_X11_ease_1 4 rfl e_X rfl zX11 9 (by decide) q_546 rfl rfl ?_
  refine y_callV_i (As := []) (rest := []) (W := fun u_1 => wX g X N T Rd Fr Ac Ch PS Ly Pa OT u_1.2 Ga Im0 Im1) (rf := fun u_1 => zI u_1.1) (rm := zrEa_findWay) cx (fun _ hq => tEa_findWay hq) d_X11_ease_4 7 rfl kk_X2_findWay q_919 q_920 q_921 rfl e_Ea rfl ⟨rfl, rfl⟩ ⟨Nat.le_of_ble_eq_true rfl, Nat.le_of_ble_eq_true rfl⟩ rfl rfl (Nat.le_of_ble_eq_true rfl) ⟨Nat.zero_le _, Nat.zero_le _⟩ h (fun u_1 h => ?_)
  refine y_istore_n cx d_X11_ease_7 8 rfl rfl (by decide) (lv' := [(1, .int (zI u_1.1)), (0, .ref (g.2.2 0))]) rfl ?_
  refine z_iload_n cx d_X11_ease_8 9 rfl rfl 0 rfl ?_
  refine y_if_ne cx d_X11_ease_9 12 rfl 14 (by decide) rfl h (fun h => ?_) (fun h => ?_)
  · refine z_aload_n cx d_X11_ease_14 15 rfl rfl 1 rfl ?_
    refine z_get cx d_X11_ease_15 18 rfl e_X rfl zX11 3 (by decide) q_540 rfl rfl ?_
    refine y_callV_v (As := []) (rest := []) (W := fun u_2 => wX g X N T Rd Fr u_2 Ch PS Ly Pa OT u_1.2 Ga Im0 Im1) (rm := zrAc_before) cx (fun _ hq => tAc_before hq) d_X11_ease_18 21 rfl kk_X0_before q_711 q_712 q_713 rfl e_Ac rfl ⟨rfl, rfl⟩ ⟨Nat.le_of_ble_eq_true rfl, Nat.le_of_ble_eq_true rfl⟩ rfl rfl (Nat.le_of_ble_eq_true rfl) ⟨Nat.zero_le _, Nat.zero_le _⟩ h (fun u_2 h => ?_)
    refine z_aload_n cx d_X11_ease_21 22 rfl rfl 1 rfl ?_
    refine z_get cx d_X11_ease_22 25 rfl e_X rfl zX11 0 (by decide) q_537 rfl rfl ?_
    refine z_dup cx d_X11_ease_25 26 rfl rfl ?_
    refine z_get cx d_X11_ease_26 29 rfl e_N rfl zX5 8 (by decide) q_195 rfl rfl ?_
    refine z_iload_n cx d_X11_ease_29 30 rfl rfl 0 rfl ?_
    refine y_ixor cx d_X11_ease_30 31 rfl ?_
    refine y_put cx d_X11_ease_31 34 rfl e_N rfl zX5 tyX5_ok nmX5 8 (by decide) q_195 rfl rfl rfl rfl (Nat.le_of_ble_eq_true rfl) h (fun _ h9 => s_N_8 h9) (fun N_3 h => ?_)
    refine z_aload_n cx d_X11_ease_34 35 rfl rfl 1 rfl ?_
    refine z_get cx d_X11_ease_35 38 rfl e_X rfl zX11 3 (by decide) q_540 rfl rfl ?_
    refine y_callV_v (As := []) (rest := []) (W := fun u_4 => wX g X N_3 T Rd Fr u_4 Ch PS Ly Pa OT u_1.2 Ga Im0 Im1) (rm := zr0) cx (fun _ hq => tAc_done hq) d_X11_ease_38 41 rfl kk_X0_done q_716 q_717 q_718 rfl e_Ac rfl ⟨rfl, rfl⟩ ⟨Nat.le_of_ble_eq_true rfl, Nat.le_of_ble_eq_true rfl⟩ rfl rfl (Nat.le_of_ble_eq_true rfl) ⟨Nat.zero_le _, Nat.zero_le _⟩ h (fun u_4 h => ?_)
    refine z_iload_n cx d_X11_ease_41 42 rfl rfl 0 rfl ?_
    refine y_callS_i (As := [.int (zI u_1.1)]) (rest := []) (W := fun u_5 => wX g X N_3 T Rd Fr u_4 Ch PS Ly Pa OT u_1.2 Ga Im0 Im1) (rf := fun u_5 => zI u_5) (rm := zr0) cx (fun _ hq => tJI_bitCount hq) d_X11_ease_42 45 rfl kk_B_bitCount q_740 q_741 ⟨rfl, rfl⟩ ⟨Nat.le_of_ble_eq_true rfl, Nat.le_of_ble_eq_true rfl⟩ rfl rfl (Nat.le_of_ble_eq_true rfl) ⟨Nat.zero_le _, Nat.zero_le _⟩ h (fun u_5 h => ?_)
    subst hQ
    obtain rfl := Option.some.inj h
    exact z_iret cx d_X11_ease_45 rfl rfl
  · refine y_iconst cx d_X11_ease_12 13 rfl ?_
    subst hQ
    obtain rfl := Option.some.inj h
    exact z_iret cx d_X11_ease_13 rfl rfl
def zrX_game : Room := { frames := 4, cells := 0, slots := 0, locals := 92 }
set_option maxHeartbeats 4000000 in
theorem tX_game {l : Launch} {g : ZG} {X : ZB} {N : ZB} {T : ZB} {Rd : ZB} {Fr : ZB} {Ac : ZA} {Ch : ZB} {PS : ZB} {Ly : ZB} {Pa : ZQ} {OT : ZB} {Ea : ZB} {Ga : ZB} {Im0 : ZO} {Im1 : ZO}  {r : Int × ZB × ZB} (h : fX_game N T Ga = some r) : zMi l yX11_game cX11_game 2 (some .int) zrX_game g [.ref (g.2.2 0)] (wX g X N T Rd Fr Ac Ch PS Ly Pa OT Ea Ga Im0 Im1) (wX g X N r.2.1 Rd Fr Ac Ch PS Ly Pa OT Ea r.2.2 Im0 Im1) (zI r.1) := by
  unfold fX_game at h
  refine zMi_q (own := RX11) rfl (by decide +kernel) (Nat.le_of_ble_eq_true rfl) (lv := [(0, .ref (g.2.2 0))]) rfl ⟨rfl, rfl⟩ ?_
  intro p e s m args below meth c A Q hQ cx
  refine z_aload_n cx d_X11_game_0 1 rfl rfl 0 rfl ?_
  refine z_get cx d_X11_game_1 4 rfl e_X rfl zX11 10 (by decide) q_547 rfl rfl ?_
  refine y_callV_i (As := []) (rest := []) (W := fun u_1 => wX g X N T Rd Fr Ac Ch PS Ly Pa OT Ea u_1.2 Im0 Im1) (rf := fun u_1 => zI u_1.1) (rm := zrGa_run) cx (fun _ hq => tGa_run hq) d_X11_game_4 7 rfl kk_X3_run q_938 q_939 q_940 rfl e_Ga rfl ⟨rfl, rfl⟩ ⟨Nat.le_of_ble_eq_true rfl, Nat.le_of_ble_eq_true rfl⟩ rfl rfl (Nat.le_of_ble_eq_true rfl) ⟨Nat.zero_le _, Nat.zero_le _⟩ h (fun u_1 h => ?_)
  refine y_istore_n cx d_X11_game_7 8 rfl rfl (by decide) (lv' := [(1, .int (zI u_1.1)), (0, .ref (g.2.2 0))]) rfl ?_
  refine z_aload_n cx d_X11_game_8 9 rfl rfl 1 rfl ?_
  refine z_get cx d_X11_game_9 12 rfl e_X rfl zX11 1 (by decide) q_538 rfl rfl ?_
  refine y_iconst cx d_X11_game_12 13 rfl ?_
  refine y_callV_v (As := [.int (zI 0)]) (rest := []) (W := fun u_2 => wX g X N u_2 Rd Fr Ac Ch PS Ly Pa OT Ea u_1.2 Im0 Im1) (rm := zr0) cx (fun _ hq => tT_cut hq) d_X11_game_13 16 rfl kk_X10_cut q_597 q_598 q_599 rfl e_T rfl ⟨rfl, rfl⟩ ⟨Nat.le_of_ble_eq_true rfl, Nat.le_of_ble_eq_true rfl⟩ rfl rfl (Nat.le_of_ble_eq_true rfl) ⟨Nat.zero_le _, Nat.zero_le _⟩ h (fun u_2 h => ?_)
  refine z_iload_n cx d_X11_game_16 17 rfl rfl 0 rfl ?_
  subst hQ
  obtain rfl := Option.some.inj h
  exact z_iret cx d_X11_game_17 rfl rfl
def zrX_keptAt : Room := { frames := 1, cells := 0, slots := 0, locals := 21 }
set_option maxHeartbeats 4000000 in
theorem tX_keptAt {l : Launch} {g : ZG} {X : ZB} {N : ZB} {T : ZB} {Rd : ZB} {Fr : ZB} {Ac : ZA} {Ch : ZB} {PS : ZB} {Ly : ZB} {Pa : ZQ} {OT : ZB} {Ea : ZB} {Ga : ZB} {Im0 : ZO} {Im1 : ZO} {a1 : Int} {r : Int} (h : fX_keptAt Ga a1 = some r) : zMi l yX11_keptAt cX11_keptAt 2 (some .int) zrX_keptAt g [.ref (g.2.2 0), .int (zI a1)] (wX g X N T Rd Fr Ac Ch PS Ly Pa OT Ea Ga Im0 Im1) (wX g X N T Rd Fr Ac Ch PS Ly Pa OT Ea Ga Im0 Im1) (zI r) := by
  unfold fX_keptAt at h
  refine zMi_q (own := RX11) rfl (by decide +kernel) (Nat.le_of_ble_eq_true rfl) (lv := [(0, .ref (g.2.2 0)), (1, .int (zI a1))]) rfl ⟨rfl, rfl⟩ ?_
  intro p e s m args below meth c A Q hQ cx
  refine z_aload_n cx d_X11_keptAt_0 1 rfl rfl 0 rfl ?_
  refine z_get cx d_X11_keptAt_1 4 rfl e_X rfl zX11 10 (by decide) q_547 rfl rfl ?_
  refine z_iload_n cx d_X11_keptAt_4 5 rfl rfl 1 rfl ?_
  refine y_callV_i (As := [.int (zI a1)]) (rest := []) (W := fun u_1 => wX g X N T Rd Fr Ac Ch PS Ly Pa OT Ea Ga Im0 Im1) (rf := fun u_1 => zI u_1) (rm := zr0) cx (fun _ hq => tGa_toldAt hq) d_X11_keptAt_5 8 rfl kk_X3_toldAt q_960 q_961 q_962 rfl e_Ga rfl ⟨rfl, rfl⟩ ⟨Nat.le_of_ble_eq_true rfl, Nat.le_of_ble_eq_true rfl⟩ rfl rfl (Nat.le_of_ble_eq_true rfl) ⟨Nat.zero_le _, Nat.zero_le _⟩ h (fun u_1 h => ?_)
  subst hQ
  obtain rfl := Option.some.inj h
  exact z_iret cx d_X11_keptAt_8 rfl rfl
def zrX_undo : Room := { frames := 4, cells := 0, slots := 0, locals := 140 }
set_option maxHeartbeats 4000000 in
theorem tX_undo {l : Launch} {g : ZG} {X : ZB} {N : ZB} {T : ZB} {Rd : ZB} {Fr : ZB} {Ac : ZA} {Ch : ZB} {PS : ZB} {Ly : ZB} {Pa : ZQ} {OT : ZB} {Ea : ZB} {Ga : ZB} {Im0 : ZO} {Im1 : ZO}  {r : Int × ZB × ZA} (h : fX_undo N Ac = some r) : zMi l yX11_undo cX11_undo 1 (some .int) zrX_undo g [.ref (g.2.2 0)] (wX g X N T Rd Fr Ac Ch PS Ly Pa OT Ea Ga Im0 Im1) (wX g X r.2.1 T Rd Fr r.2.2 Ch PS Ly Pa OT Ea Ga Im0 Im1) (zI r.1) := by
  unfold fX_undo at h
  refine zMi_q (own := RX11) rfl (by decide +kernel) (Nat.le_of_ble_eq_true rfl) (lv := [(0, .ref (g.2.2 0))]) rfl ⟨rfl, rfl⟩ ?_
  intro p e s m args below meth c A Q hQ cx
  refine z_aload_n cx d_X11_undo_0 1 rfl rfl 0 rfl ?_
  refine z_get cx d_X11_undo_1 4 rfl e_X rfl zX11 3 (by decide) q_540 rfl rfl ?_
  refine y_callV_i (As := []) (rest := []) (W := fun u_1 => wX g X u_1.2.1 T Rd Fr u_1.2.2 Ch PS Ly Pa OT Ea Ga Im0 Im1) (rf := fun u_1 => zI u_1.1) (rm := zrAc_takeBack) cx (fun _ hq => tAc_takeBack hq) d_X11_undo_4 7 rfl kk_X0_takeBack q_968 q_969 q_970 rfl e_Ac rfl ⟨rfl, rfl⟩ ⟨Nat.le_of_ble_eq_true rfl, Nat.le_of_ble_eq_true rfl⟩ rfl rfl (Nat.le_of_ble_eq_true rfl) ⟨Nat.zero_le _, Nat.zero_le _⟩ h (fun u_1 h => ?_)
  refine kf1_f (P := fun (w0_2 : Int) => V p l e zrX_undo s m args below meth c A s.heap g 1 Q (wX g X u_1.2.1 T Rd Fr u_1.2.2 Ch PS Ly Pa OT Ea Ga Im0 Im1) 0 0 [] 21 [.int (zI w0_2)]) h (fun w0_2 h => ?_) (fun k_3 hk_3 h => ?_)
  · subst hQ
    obtain rfl := Option.some.inj h
    exact z_iret cx d_X11_undo_21 rfl rfl
  refine y_if_eq cx d_X11_undo_7 10 rfl 20 (by decide) rfl h (fun h => ?_) (fun h => ?_)
  · refine y_iconst cx d_X11_undo_20 21 rfl ?_
    refine z_sub [] rfl ?_
    exact hk_3 _ h
  · refine z_aload_n cx d_X11_undo_10 11 rfl rfl 0 rfl ?_
    refine z_get cx d_X11_undo_11 14 rfl e_X rfl zX11 3 (by decide) q_540 rfl rfl ?_
    refine y_callV_i (As := []) (rest := []) (W := fun u_4 => wX g X u_1.2.1 T Rd Fr u_1.2.2 Ch PS Ly Pa OT Ea Ga Im0 Im1) (rf := fun u_4 => zI u_4) (rm := zr0) cx (fun _ hq => tAc_count hq) d_X11_undo_14 17 rfl kk_X0_count q_764 q_765 q_766 rfl e_Ac rfl ⟨rfl, rfl⟩ ⟨Nat.le_of_ble_eq_true rfl, Nat.le_of_ble_eq_true rfl⟩ rfl rfl (Nat.le_of_ble_eq_true rfl) ⟨Nat.zero_le _, Nat.zero_le _⟩ h (fun u_4 h => ?_)
    refine z_goto cx d_X11_undo_17 21 (by decide) ?_
    refine z_sub [] rfl ?_
    exact hk_3 _ h
def zrX_most : Room := { frames := 4, cells := 0, slots := 0, locals := 90 }
set_option maxHeartbeats 4000000 in
theorem tX_most {l : Launch} {g : ZG} {X : ZB} {N : ZB} {T : ZB} {Rd : ZB} {Fr : ZB} {Ac : ZA} {Ch : ZB} {PS : ZB} {Ly : ZB} {Pa : ZQ} {OT : ZB} {Ea : ZB} {Ga : ZB} {Im0 : ZO} {Im1 : ZO} {a1 : Int} {r : Int × ZB} (h : fX_most N PS a1 = some r) : zMi l yX11_most cX11_most 2 (some .int) zrX_most g [.ref (g.2.2 0), .int (zI a1)] (wX g X N T Rd Fr Ac Ch PS Ly Pa OT Ea Ga Im0 Im1) (wX g X N T Rd Fr Ac Ch r.2 Ly Pa OT Ea Ga Im0 Im1) (zI r.1) := by
  unfold fX_most at h
  refine zMi_q (own := RX11) rfl (by decide +kernel) (Nat.le_of_ble_eq_true rfl) (lv := [(0, .ref (g.2.2 0)), (1, .int (zI a1))]) rfl ⟨rfl, rfl⟩ ?_
  intro p e s m args below meth c A Q hQ cx
  refine z_iload_n cx d_X11_most_0 1 rfl rfl 1 rfl ?_
  refine kf2_f (P := fun (w0_1 : Int) (PS_2 : ZB) => V p l e zrX_most s m args below meth c A s.heap g 2 Q (wX g X N T Rd Fr Ac Ch PS_2 Ly Pa OT Ea Ga Im0 Im1) 0 0 [] 25 [.int (zI w0_1)]) h (fun w0_1 PS_2 h => ?_) (fun k_3 hk_3 h => ?_)
  · subst hQ
    obtain rfl := Option.some.inj h
    exact z_iret cx d_X11_most_25 rfl rfl
  refine kf0_f (P := V p l e zrX_most s m args below meth c A s.heap g 2 Q (wX g X N T Rd Fr Ac Ch PS Ly Pa OT Ea Ga Im0 Im1) 0 0 [] 10 []) h (fun h => ?_) (fun k_4 hk_4 h => ?_)
  · refine y_iconst cx d_X11_most_10 11 rfl ?_
    refine z_goto cx d_X11_most_11 25 (by decide) ?_
    exact hk_3 _ _ h
  refine y_if_lt cx d_X11_most_1 4 rfl 10 (by decide) rfl h (fun h => ?_) (fun h => ?_)
  · refine z_sub [] rfl ?_
    exact hk_4  h
  · refine z_iload_n cx d_X11_most_4 5 rfl rfl 1 rfl ?_
    refine y_bipush cx d_X11_most_5 7 rfl (by decide) ?_
    refine y_icmp_le cx d_X11_most_7 10 rfl 14 (by decide) rfl (nm_eq (x := 24) (by decide) (by decide)) h (fun h => ?_) (fun h => ?_)
    · refine z_aload_n cx d_X11_most_14 15 rfl rfl 0 rfl ?_
      refine z_get cx d_X11_most_15 18 rfl e_X rfl zX11 5 (by decide) q_542 rfl rfl ?_
      refine z_iload_n cx d_X11_most_18 19 rfl rfl 1 rfl ?_
      refine y_callV_i (As := [.int (zI a1)]) (rest := []) (W := fun u_5 => wX g X N T Rd Fr Ac Ch u_5.2 Ly Pa OT Ea Ga Im0 Im1) (rf := fun u_5 => zI u_5.1) (rm := zrPS_takeByNumber) cx (fun _ hq => tPS_takeByNumber hq) d_X11_most_19 22 rfl kk_X8_takeByNumber q_976 q_977 q_978 rfl e_PS rfl ⟨rfl, rfl⟩ ⟨Nat.le_of_ble_eq_true rfl, Nat.le_of_ble_eq_true rfl⟩ rfl rfl (Nat.le_of_ble_eq_true rfl) ⟨Nat.zero_le _, Nat.zero_le _⟩ h (fun u_5 h => ?_)
      refine y_callS_i (As := [.int (zI u_5.1)]) (rest := []) (W := fun u_6 => wX g X N T Rd Fr Ac Ch u_5.2 Ly Pa OT Ea Ga Im0 Im1) (rf := fun u_6 => zI u_6) (rm := zr0) cx (fun _ hq => tJI_bitCount hq) d_X11_most_22 25 rfl kk_B_bitCount q_740 q_741 ⟨rfl, rfl⟩ ⟨Nat.le_of_ble_eq_true rfl, Nat.le_of_ble_eq_true rfl⟩ rfl rfl (Nat.le_of_ble_eq_true rfl) ⟨Nat.zero_le _, Nat.zero_le _⟩ h (fun u_6 h => ?_)
      refine z_sub [] rfl ?_
      exact hk_3 _ _ h
    · refine z_sub [] rfl ?_
      exact hk_4  h
def zrX_fewest : Room := { frames := 5, cells := 0, slots := 0, locals := 110 }
set_option maxHeartbeats 4000000 in
theorem tX_fewest {l : Launch} {g : ZG} {X : ZB} {N : ZB} {T : ZB} {Rd : ZB} {Fr : ZB} {Ac : ZA} {Ch : ZB} {PS : ZB} {Ly : ZB} {Pa : ZQ} {OT : ZB} {Ea : ZB} {Ga : ZB} {Im0 : ZO} {Im1 : ZO}  {r : Int × ZB} (h : fX_fewest N PS = some r) : zMi l yX11_fewest cX11_fewest 1 (some .int) zrX_fewest g [.ref (g.2.2 0)] (wX g X N T Rd Fr Ac Ch PS Ly Pa OT Ea Ga Im0 Im1) (wX g X N T Rd Fr Ac Ch r.2 Ly Pa OT Ea Ga Im0 Im1) (zI r.1) := by
  unfold fX_fewest at h
  refine zMi_q (own := RX11) rfl (by decide +kernel) (Nat.le_of_ble_eq_true rfl) (lv := [(0, .ref (g.2.2 0))]) rfl ⟨rfl, rfl⟩ ?_
  intro p e s m args below meth c A Q hQ cx
  refine z_aload_n cx d_X11_fewest_0 1 rfl rfl 0 rfl ?_
  refine z_get cx d_X11_fewest_1 4 rfl e_X rfl zX11 5 (by decide) q_542 rfl rfl ?_
  refine y_callV_i (As := []) (rest := []) (W := fun u_1 => wX g X N T Rd Fr Ac Ch u_1.2 Ly Pa OT Ea Ga Im0 Im1) (rf := fun u_1 => zI u_1.1) (rm := zrPS_fewestForests) cx (fun _ hq => tPS_fewestForests hq) d_X11_fewest_4 7 rfl kk_X8_fewestForests q_1003 q_1004 q_1005 rfl e_PS rfl ⟨rfl, rfl⟩ ⟨Nat.le_of_ble_eq_true rfl, Nat.le_of_ble_eq_true rfl⟩ rfl rfl (Nat.le_of_ble_eq_true rfl) ⟨Nat.zero_le _, Nat.zero_le _⟩ h (fun u_1 h => ?_)
  subst hQ
  obtain rfl := Option.some.inj h
  exact z_iret cx d_X11_fewest_7 rfl rfl
def zrX_trees : Room := { frames := 5, cells := 0, slots := 0, locals := 112 }
set_option maxHeartbeats 4000000 in
theorem tX_trees {l : Launch} {g : ZG} {X : ZB} {N : ZB} {T : ZB} {Rd : ZB} {Fr : ZB} {Ac : ZA} {Ch : ZB} {PS : ZB} {Ly : ZB} {Pa : ZQ} {OT : ZB} {Ea : ZB} {Ga : ZB} {Im0 : ZO} {Im1 : ZO}  {r : Int × ZB} (h : fX_trees N PS = some r) : zMi l yX11_trees cX11_trees 1 (some .int) zrX_trees g [.ref (g.2.2 0)] (wX g X N T Rd Fr Ac Ch PS Ly Pa OT Ea Ga Im0 Im1) (wX g X N T Rd Fr Ac Ch r.2 Ly Pa OT Ea Ga Im0 Im1) (zI r.1) := by
  unfold fX_trees at h
  refine zMi_q (own := RX11) rfl (by decide +kernel) (Nat.le_of_ble_eq_true rfl) (lv := [(0, .ref (g.2.2 0))]) rfl ⟨rfl, rfl⟩ ?_
  intro p e s m args below meth c A Q hQ cx
  refine z_aload_n cx d_X11_trees_0 1 rfl rfl 0 rfl ?_
  refine z_get cx d_X11_trees_1 4 rfl e_X rfl zX11 0 (by decide) q_537 rfl rfl ?_
  refine z_get cx d_X11_trees_4 7 rfl e_N rfl zX5 4 (by decide) q_178 rfl rfl ?_
  refine y_iconst cx d_X11_trees_7 8 rfl ?_
  refine kf2_f (P := fun (w0_1 : Int) (PS_2 : ZB) => V p l e zrX_trees s m args below meth c A s.heap g 1 Q (wX g X N T Rd Fr Ac Ch PS_2 Ly Pa OT Ea Ga Im0 Im1) 0 0 [] 22 [.int (zI w0_1)]) h (fun w0_1 PS_2 h => ?_) (fun k_3 hk_3 h => ?_)
  · subst hQ
    obtain rfl := Option.some.inj h
    exact z_iret cx d_X11_trees_22 rfl rfl
  refine y_icmp_ge cx d_X11_trees_8 11 rfl 15 (by decide) rfl (nm_eq (x := 2) (by decide) (by decide)) h (fun h => ?_) (fun h => ?_)
  · refine z_aload_n cx d_X11_trees_15 16 rfl rfl 0 rfl ?_
    refine z_get cx d_X11_trees_16 19 rfl e_X rfl zX11 5 (by decide) q_542 rfl rfl ?_
    refine y_callV_i (As := []) (rest := []) (W := fun u_4 => wX g X N T Rd Fr Ac Ch u_4.2 Ly Pa OT Ea Ga Im0 Im1) (rf := fun u_4 => zI u_4.1) (rm := zrPS_mostTrees) cx (fun _ hq => tPS_mostTrees hq) d_X11_trees_19 22 rfl kk_X8_mostTrees q_1026 q_1027 q_1028 rfl e_PS rfl ⟨rfl, rfl⟩ ⟨Nat.le_of_ble_eq_true rfl, Nat.le_of_ble_eq_true rfl⟩ rfl rfl (Nat.le_of_ble_eq_true rfl) ⟨Nat.zero_le _, Nat.zero_le _⟩ h (fun u_4 h => ?_)
    refine z_sub [] rfl ?_
    exact hk_3 _ _ h
  · refine y_iconst cx d_X11_trees_11 12 rfl ?_
    refine z_goto cx d_X11_trees_12 22 (by decide) ?_
    refine z_sub [] rfl ?_
    exact hk_3 _ _ h
set_option maxHeartbeats 4000000 in
theorem tX_leastTerms {l : Launch} {g : ZG} {w : va_W} {a1 : Int} {a2 : Int} {a3 : Int} {r : Int} (h : fX_leastTerms a1 a2 a3 = some r) : zMi l yX11_leastTerms cX11_leastTerms 7 (some .int) zr0 g [.int (zI a1), .int (zI a2), .int (zI a3)] (w) (w) (zI r) := by
  unfold fX_leastTerms at h
  refine zMi_q (own := RX11) rfl (by decide +kernel) (Nat.le_of_ble_eq_true rfl) (lv := [(0, .int (zI a1)), (1, .int (zI a2)), (2, .int (zI a3))]) rfl ⟨rfl, rfl⟩ ?_
  intro p e s m args below meth c A Q hQ cx
  refine z_iload_n cx d_X11_leastTerms_0 1 rfl rfl 1 rfl ?_
  refine y_istore_n cx d_X11_leastTerms_1 2 rfl rfl (by decide) (lv' := [(3, .int (zI a2)), (0, .int (zI a1)), (1, .int (zI a2)), (2, .int (zI a3))]) rfl ?_
  refine z_iload_n cx d_X11_leastTerms_2 3 rfl rfl 1 rfl ?_
  refine y_istore cx d_X11_leastTerms_3 5 rfl (by decide) (lv' := [(4, .int (zI a1)), (3, .int (zI a2)), (0, .int (zI a1)), (1, .int (zI a2)), (2, .int (zI a3))]) rfl ?_
  refine y_iconst cx d_X11_leastTerms_5 6 rfl ?_
  refine y_istore cx d_X11_leastTerms_6 8 rfl (by decide) (lv' := [(5, .int (zI 0)), (4, .int (zI a1)), (3, .int (zI a2)), (0, .int (zI a1)), (1, .int (zI a2)), (2, .int (zI a3))]) rfl ?_
  refine z_sub [3, 4, 5, 2, 1, 0] rfl ?_
  refine lop3_f (P := fun (v3_1 : Int) (v4_2 : Int) (v5_3 : Int) => V p l e zr0 s m args below meth c A s.heap g 7 Q (w) 0 0 [(0, .int (zI a1)), (1, .int (zI a2)), (2, .int (zI a3)), (3, .int (zI v3_1)), (4, .int (zI v4_2)), (5, .int (zI v5_3))] 8 []) (fun rec_4 hrec_4 v3_1 v4_2 v5_3 h => ?_) _ _ _ _ h
  refine z_iload cx d_X11_leastTerms_8 10 rfl 5 rfl ?_
  refine y_bipush cx d_X11_leastTerms_10 12 rfl (by decide) ?_
  refine kf0_f (P := V p l e zr0 s m args below meth c A s.heap g 7 Q (w) 0 0 [(0, .int (zI a1)), (1, .int (zI a2)), (2, .int (zI a3)), (3, .int (zI v3_1))] 39 []) h (fun h => ?_) (fun k_5 hk_5 h => ?_)
  · refine z_iload_n cx d_X11_leastTerms_39 40 rfl rfl 2 rfl ?_
    refine kf1_f (P := fun (w0_6 : Int) => V p l e zr0 s m args below meth c A s.heap g 7 Q (w) 0 0 [(3, .int (zI v3_1))] 48 [.int (zI w0_6)]) h (fun w0_6 h => ?_) (fun k_7 hk_7 h => ?_)
    · refine y_istore cx d_X11_leastTerms_48 50 rfl (by decide) (lv' := [(5, .int (zI w0_6)), (3, .int (zI v3_1))]) rfl ?_
      refine z_iload_n cx d_X11_leastTerms_50 51 rfl rfl 1 rfl ?_
      refine kf1_f (P := fun (w0_8 : Int) => V p l e zr0 s m args below meth c A s.heap g 7 Q (w) 0 0 [] 63 [.int (zI w0_8)]) h (fun w0_8 h => ?_) (fun k_9 hk_9 h => ?_)
      · subst hQ
        obtain rfl := Option.some.inj h
        exact z_iret cx d_X11_leastTerms_63 rfl rfl
      refine y_if_ne cx d_X11_leastTerms_51 54 rfl 59 (by decide) rfl h (fun h => ?_) (fun h => ?_)
      · refine z_iload cx d_X11_leastTerms_59 61 rfl 0 rfl ?_
        refine z_iload_n cx d_X11_leastTerms_61 62 rfl rfl 1 rfl ?_
        refine y_idiv cx d_X11_leastTerms_62 63 rfl h (fun h => ?_)
        refine z_sub [] rfl ?_
        exact hk_9 _ h
      · refine z_iload cx d_X11_leastTerms_54 56 rfl 0 rfl ?_
        refine z_goto cx d_X11_leastTerms_56 63 (by decide) ?_
        refine z_sub [] rfl ?_
        exact hk_9 _ h
    refine y_if_ne cx d_X11_leastTerms_40 43 rfl 47 (by decide) rfl h (fun h => ?_) (fun h => ?_)
    · refine z_iload_n cx d_X11_leastTerms_47 48 rfl rfl 1 rfl ?_
      refine z_sub [3] rfl ?_
      exact hk_7 _ h
    · refine z_iload_n cx d_X11_leastTerms_43 44 rfl rfl 0 rfl ?_
      refine z_goto cx d_X11_leastTerms_44 48 (by decide) ?_
      refine z_sub [3] rfl ?_
      exact hk_7 _ h
  refine y_icmp_ge cx d_X11_leastTerms_12 15 rfl 39 (by decide) rfl (nm_eq (x := 64) (by decide) (by decide)) h (fun h => ?_) (fun h => ?_)
  · refine z_sub [0, 1, 2, 3] rfl ?_
    exact hk_5  h
  · refine z_iload cx d_X11_leastTerms_15 17 rfl 4 rfl ?_
    refine y_if_eq cx d_X11_leastTerms_17 20 rfl 39 (by decide) rfl h (fun h => ?_) (fun h => ?_)
    · refine z_sub [0, 1, 2, 3] rfl ?_
      exact hk_5  h
    · refine z_iload_n cx d_X11_leastTerms_20 21 rfl rfl 3 rfl ?_
      refine z_iload cx d_X11_leastTerms_21 23 rfl 4 rfl ?_
      refine y_irem cx d_X11_leastTerms_23 24 rfl h (fun h => ?_)
      refine y_istore_b cx d_X11_leastTerms_24 26 rfl (by decide) (fun y => [(6, .int (zI y)), (0, .int (zI a1)), (1, .int (zI a2)), (2, .int (zI a3)), (3, .int (zI v3_1)), (4, .int (zI v4_2)), (5, .int (zI v5_3))]) (fun y => rfl) h (fun v6_10 h => ?_)
      refine z_iload cx d_X11_leastTerms_26 28 rfl 5 rfl ?_
      refine y_istore_n cx d_X11_leastTerms_28 29 rfl rfl (by decide) (lv' := [(3, .int (zI v4_2)), (6, .int (zI v6_10)), (0, .int (zI a1)), (1, .int (zI a2)), (2, .int (zI a3)), (4, .int (zI v4_2)), (5, .int (zI v5_3))]) rfl ?_
      refine z_iload cx d_X11_leastTerms_29 31 rfl 1 rfl ?_
      refine y_istore cx d_X11_leastTerms_31 33 rfl (by decide) (lv' := [(4, .int (zI v6_10)), (3, .int (zI v4_2)), (6, .int (zI v6_10)), (0, .int (zI a1)), (1, .int (zI a2)), (2, .int (zI a3)), (5, .int (zI v5_3))]) rfl ?_
      refine y_iinc cx 6 d_X11_leastTerms_33 36 rfl rfl (by decide) (lv' := [(5, .int (zI (v5_3 + 1))), (4, .int (zI v6_10)), (3, .int (zI v4_2)), (6, .int (zI v6_10)), (0, .int (zI a1)), (1, .int (zI a2)), (2, .int (zI a3))]) rfl ?_
      refine z_goto cx d_X11_leastTerms_36 8 (by decide) ?_
      refine z_sub [4, 5, 6, 2, 1, 0] rfl ?_
      exact hrec_4 _ _ _ h
def zrX_thick : Room := { frames := 4, cells := 0, slots := 0, locals := 91 }
set_option maxHeartbeats 4000000 in
theorem tX_thick {l : Launch} {g : ZG} {X : ZB} {N : ZB} {T : ZB} {Rd : ZB} {Fr : ZB} {Ac : ZA} {Ch : ZB} {PS : ZB} {Ly : ZB} {Pa : ZQ} {OT : ZB} {Ea : ZB} {Ga : ZB} {Im0 : ZO} {Im1 : ZO} {a1 : Int} {r : Int × ZB} (h : fX_thick N PS a1 = some r) : zMi l yX11_thick cX11_thick 2 (some .int) zrX_thick g [.ref (g.2.2 0), .int (zI a1)] (wX g X N T Rd Fr Ac Ch PS Ly Pa OT Ea Ga Im0 Im1) (wX g X N T Rd Fr Ac Ch r.2 Ly Pa OT Ea Ga Im0 Im1) (zI r.1) := by
  unfold fX_thick at h
  refine zMi_q (own := RX11) rfl (by decide +kernel) (Nat.le_of_ble_eq_true rfl) (lv := [(0, .ref (g.2.2 0)), (1, .int (zI a1))]) rfl ⟨rfl, rfl⟩ ?_
  intro p e s m args below meth c A Q hQ cx
  refine z_aload_n cx d_X11_thick_0 1 rfl rfl 0 rfl ?_
  refine z_get cx d_X11_thick_1 4 rfl e_X rfl zX11 0 (by decide) q_537 rfl rfl ?_
  refine z_get cx d_X11_thick_4 7 rfl e_N rfl zX5 4 (by decide) q_178 rfl rfl ?_
  refine y_iconst cx d_X11_thick_7 8 rfl ?_
  refine kf0_f (P := V p l e zrX_thick s m args below meth c A s.heap g 2 Q (wX g X N T Rd Fr Ac Ch PS Ly Pa OT Ea Ga Im0 Im1) 0 0 [] 20 []) h (fun h => ?_) (fun k_1 hk_1 h => ?_)
  · refine y_iconst cx d_X11_thick_20 21 rfl ?_
    subst hQ
    obtain rfl := Option.some.inj h
    exact z_iret cx d_X11_thick_21 rfl rfl
  refine y_icmp_lt cx d_X11_thick_8 11 rfl 20 (by decide) rfl (nm_eq (x := 2) (by decide) (by decide)) h (fun h => ?_) (fun h => ?_)
  · refine z_sub [] rfl ?_
    exact hk_1  h
  · refine z_iload_n cx d_X11_thick_11 12 rfl rfl 1 rfl ?_
    refine y_if_lt cx d_X11_thick_12 15 rfl 20 (by decide) rfl h (fun h => ?_) (fun h => ?_)
    · refine z_sub [] rfl ?_
      exact hk_1  h
    · refine z_iload_n cx d_X11_thick_15 16 rfl rfl 1 rfl ?_
      refine y_iconst cx d_X11_thick_16 17 rfl ?_
      refine y_icmp_le cx d_X11_thick_17 20 rfl 22 (by decide) rfl (nm_eq (x := 2) (by decide) (by decide)) h (fun h => ?_) (fun h => ?_)
      · refine z_aload_n cx d_X11_thick_22 23 rfl rfl 0 rfl ?_
        refine z_get cx d_X11_thick_23 26 rfl e_X rfl zX11 5 (by decide) q_542 rfl rfl ?_
        refine y_callV_v (As := []) (rest := []) (W := fun u_2 => wX g X N T Rd Fr Ac Ch u_2 Ly Pa OT Ea Ga Im0 Im1) (rm := zrPS_findThick0) cx (fun _ hq => tPS_findThick0 hq) d_X11_thick_26 29 rfl kk_X8_findThick q_1035 q_1036 q_1037 rfl e_PS rfl ⟨rfl, rfl⟩ ⟨Nat.le_of_ble_eq_true rfl, Nat.le_of_ble_eq_true rfl⟩ rfl rfl (Nat.le_of_ble_eq_true rfl) ⟨Nat.zero_le _, Nat.zero_le _⟩ h (fun u_2 h => ?_)
        refine z_iload_n cx d_X11_thick_29 30 rfl rfl 1 rfl ?_
        refine y_iconst cx d_X11_thick_30 31 rfl ?_
        refine y_icmp_ne cx d_X11_thick_31 34 rfl 42 (by decide) rfl (nm_eq (x := 2) (by decide) (by decide)) h (fun h => ?_) (fun h => ?_)
        · refine z_aload_n cx d_X11_thick_42 43 rfl rfl 0 rfl ?_
          refine z_get cx d_X11_thick_43 46 rfl e_X rfl zX11 5 (by decide) q_542 rfl rfl ?_
          refine y_callV_i (As := []) (rest := []) (W := fun u_3 => wX g X N T Rd Fr Ac Ch u_2 Ly Pa OT Ea Ga Im0 Im1) (rf := fun u_3 => zI u_3) (rm := zr0) cx (fun _ hq => tPS_bestAbove hq) d_X11_thick_46 49 rfl kk_X8_bestAbove q_1047 q_1048 q_1049 rfl e_PS rfl ⟨rfl, rfl⟩ ⟨Nat.le_of_ble_eq_true rfl, Nat.le_of_ble_eq_true rfl⟩ rfl rfl (Nat.le_of_ble_eq_true rfl) ⟨Nat.zero_le _, Nat.zero_le _⟩ h (fun u_3 h => ?_)
          refine z_aload_n cx d_X11_thick_49 50 rfl rfl 0 rfl ?_
          refine z_get cx d_X11_thick_50 53 rfl e_X rfl zX11 5 (by decide) q_542 rfl rfl ?_
          refine y_callV_i (As := []) (rest := [.int (zI u_3)]) (W := fun u_4 => wX g X N T Rd Fr Ac Ch u_2 Ly Pa OT Ea Ga Im0 Im1) (rf := fun u_4 => zI u_4) (rm := zr0) cx (fun _ hq => tPS_bestBelow hq) d_X11_thick_53 56 rfl kk_X8_bestBelow q_1051 q_1052 q_1053 rfl e_PS rfl ⟨rfl, rfl⟩ ⟨Nat.le_of_ble_eq_true rfl, Nat.le_of_ble_eq_true rfl⟩ rfl rfl (Nat.le_of_ble_eq_true rfl) ⟨Nat.zero_le _, Nat.zero_le _⟩ h (fun u_4 h => ?_)
          refine z_iload_n cx d_X11_thick_56 57 rfl rfl 1 rfl ?_
          refine y_callS_i (As := [.int (zI u_3), .int (zI u_4), .int (zI a1)]) (rest := []) (W := fun u_5 => wX g X N T Rd Fr Ac Ch u_2 Ly Pa OT Ea Ga Im0 Im1) (rf := fun u_5 => zI u_5) (rm := zr0) cx (fun _ hq => tX_leastTerms hq) d_X11_thick_57 60 rfl kk_X11_leastTerms q_1055 q_1056 ⟨rfl, rfl⟩ ⟨Nat.le_of_ble_eq_true rfl, Nat.le_of_ble_eq_true rfl⟩ rfl rfl (Nat.le_of_ble_eq_true rfl) ⟨Nat.zero_le _, Nat.zero_le _⟩ h (fun u_5 h => ?_)
          subst hQ
          obtain rfl := Option.some.inj h
          exact z_iret cx d_X11_thick_60 rfl rfl
        · refine z_aload_n cx d_X11_thick_34 35 rfl rfl 0 rfl ?_
          refine z_get cx d_X11_thick_35 38 rfl e_X rfl zX11 5 (by decide) q_542 rfl rfl ?_
          refine y_callV_i (As := []) (rest := []) (W := fun u_6 => wX g X N T Rd Fr Ac Ch u_2 Ly Pa OT Ea Ga Im0 Im1) (rf := fun u_6 => zI u_6) (rm := zr0) cx (fun _ hq => tPS_bestSet hq) d_X11_thick_38 41 rfl kk_X8_bestSet q_1043 q_1044 q_1045 rfl e_PS rfl ⟨rfl, rfl⟩ ⟨Nat.le_of_ble_eq_true rfl, Nat.le_of_ble_eq_true rfl⟩ rfl rfl (Nat.le_of_ble_eq_true rfl) ⟨Nat.zero_le _, Nat.zero_le _⟩ h (fun u_6 h => ?_)
          subst hQ
          obtain rfl := Option.some.inj h
          exact z_iret cx d_X11_thick_41 rfl rfl
      · refine z_sub [] rfl ?_
        exact hk_1  h
def zrX_crowded : Room := { frames := 4, cells := 0, slots := 0, locals := 93 }
set_option maxHeartbeats 4000000 in
theorem tX_crowded {l : Launch} {g : ZG} {X : ZB} {N : ZB} {T : ZB} {Rd : ZB} {Fr : ZB} {Ac : ZA} {Ch : ZB} {PS : ZB} {Ly : ZB} {Pa : ZQ} {OT : ZB} {Ea : ZB} {Ga : ZB} {Im0 : ZO} {Im1 : ZO} {a1 : Int} {r : Int × ZB} (h : fX_crowded N PS a1 = some r) : zMi l yX11_crowded cX11_crowded 2 (some .int) zrX_crowded g [.ref (g.2.2 0), .int (zI a1)] (wX g X N T Rd Fr Ac Ch PS Ly Pa OT Ea Ga Im0 Im1) (wX g X N T Rd Fr Ac Ch r.2 Ly Pa OT Ea Ga Im0 Im1) (zI r.1) := by
  unfold fX_crowded at h
  refine zMi_q (own := RX11) rfl (by decide +kernel) (Nat.le_of_ble_eq_true rfl) (lv := [(0, .ref (g.2.2 0)), (1, .int (zI a1))]) rfl ⟨rfl, rfl⟩ ?_
  intro p e s m args below meth c A Q hQ cx
  refine z_iload_n cx d_X11_crowded_0 1 rfl rfl 1 rfl ?_
  refine kf2_f (P := fun (w0_1 : Int) (PS_2 : ZB) => V p l e zrX_crowded s m args below meth c A s.heap g 2 Q (wX g X N T Rd Fr Ac Ch PS_2 Ly Pa OT Ea Ga Im0 Im1) 0 0 [] 22 [.int (zI w0_1)]) h (fun w0_1 PS_2 h => ?_) (fun k_3 hk_3 h => ?_)
  · subst hQ
    obtain rfl := Option.some.inj h
    exact z_iret cx d_X11_crowded_22 rfl rfl
  refine kf0_f (P := V p l e zrX_crowded s m args below meth c A s.heap g 2 Q (wX g X N T Rd Fr Ac Ch PS Ly Pa OT Ea Ga Im0 Im1) 0 0 [] 10 []) h (fun h => ?_) (fun k_4 hk_4 h => ?_)
  · refine y_iconst cx d_X11_crowded_10 11 rfl ?_
    refine z_goto cx d_X11_crowded_11 22 (by decide) ?_
    exact hk_3 _ _ h
  refine y_if_lt cx d_X11_crowded_1 4 rfl 10 (by decide) rfl h (fun h => ?_) (fun h => ?_)
  · refine z_sub [] rfl ?_
    exact hk_4  h
  · refine z_iload_n cx d_X11_crowded_4 5 rfl rfl 1 rfl ?_
    refine y_bipush cx d_X11_crowded_5 7 rfl (by decide) ?_
    refine y_icmp_le cx d_X11_crowded_7 10 rfl 14 (by decide) rfl (nm_eq (x := 24) (by decide) (by decide)) h (fun h => ?_) (fun h => ?_)
    · refine z_aload_n cx d_X11_crowded_14 15 rfl rfl 0 rfl ?_
      refine z_get cx d_X11_crowded_15 18 rfl e_X rfl zX11 5 (by decide) q_542 rfl rfl ?_
      refine z_iload_n cx d_X11_crowded_18 19 rfl rfl 1 rfl ?_
      refine y_callV_i (As := [.int (zI a1)]) (rest := []) (W := fun u_5 => wX g X N T Rd Fr Ac Ch u_5.2 Ly Pa OT Ea Ga Im0 Im1) (rf := fun u_5 => zI u_5.1) (rm := zrPS_findCrowded) cx (fun _ hq => tPS_findCrowded hq) d_X11_crowded_19 22 rfl kk_X8_findCrowded q_1062 q_1063 q_1064 rfl e_PS rfl ⟨rfl, rfl⟩ ⟨Nat.le_of_ble_eq_true rfl, Nat.le_of_ble_eq_true rfl⟩ rfl rfl (Nat.le_of_ble_eq_true rfl) ⟨Nat.zero_le _, Nat.zero_le _⟩ h (fun u_5 h => ?_)
      refine z_sub [] rfl ?_
      exact hk_3 _ _ h
    · refine z_sub [] rfl ?_
      exact hk_4  h
