-- needs: 06.world 07.fun 08.links5 09.dec1 09.dec2 09.dec3 09.dec4 10.vsmall 11.vsets 12.vways 13.vread 14.vclass1 14.vclass2
def zrX_strength : Room := { frames := 4, cells := 0, slots := 0, locals := 111 }
set_option maxHeartbeats 4000000 in
theorem tX_strength {l : Launch} {g : ZG} {X : ZB} {N : ZB} {T : ZB} {Rd : ZB} {Fr : ZB} {Ac : ZA} {Ch : ZB} {PS : ZB} {Ly : ZB} {Pa : ZQ} {OT : ZB} {Ea : ZB} {Ga : ZB} {Im0 : ZO} {Im1 : ZO} {a1 : Int} {r : Int × ZB × ZQ} (h : fX_strength N PS Pa a1 = some r) : zMi l yX11_strength cX11_strength 2 (some .int) zrX_strength g [.ref (g.2.2 0), .int (zI a1)] (wX g X N T Rd Fr Ac Ch PS Ly Pa OT Ea Ga Im0 Im1) (wX g X N T Rd Fr Ac Ch r.2.1 Ly r.2.2 OT Ea Ga Im0 Im1) (zI r.1) := by
  unfold fX_strength at h
  refine zMi_q (own := RX11) rfl (by decide +kernel) (Nat.le_of_ble_eq_true rfl) (lv := [(0, .ref (g.2.2 0)), (1, .int (zI a1))]) rfl ⟨rfl, rfl⟩ ?_
  intro p e s m args below meth c A Q hQ cx
  refine z_aload_n cx d_X11_strength_0 1 rfl rfl 0 rfl ?_
  refine z_get cx d_X11_strength_1 4 rfl e_X rfl zX11 0 (by decide) q_537 rfl rfl ?_
  refine z_get cx d_X11_strength_4 7 rfl e_N rfl zX5 4 (by decide) q_178 rfl rfl ?_
  refine y_iconst cx d_X11_strength_7 8 rfl ?_
  refine kf0_f (P := V p l e zrX_strength s m args below meth c A s.heap g 2 Q (wX g X N T Rd Fr Ac Ch PS Ly Pa OT Ea Ga Im0 Im1) 0 0 [] 20 []) h (fun h => ?_) (fun k_1 hk_1 h => ?_)
  · refine y_iconst cx d_X11_strength_20 21 rfl ?_
    subst hQ
    obtain rfl := Option.some.inj h
    exact z_iret cx d_X11_strength_21 rfl rfl
  refine y_icmp_lt cx d_X11_strength_8 11 rfl 20 (by decide) rfl (nm_eq (x := 2) (by decide) (by decide)) h (fun h => ?_) (fun h => ?_)
  · refine z_sub [] rfl ?_
    exact hk_1  h
  · refine z_iload_n cx d_X11_strength_11 12 rfl rfl 1 rfl ?_
    refine y_if_lt cx d_X11_strength_12 15 rfl 20 (by decide) rfl h (fun h => ?_) (fun h => ?_)
    · refine z_sub [] rfl ?_
      exact hk_1  h
    · refine z_iload_n cx d_X11_strength_15 16 rfl rfl 1 rfl ?_
      refine y_iconst cx d_X11_strength_16 17 rfl ?_
      refine y_icmp_le cx d_X11_strength_17 20 rfl 22 (by decide) rfl (nm_eq (x := 2) (by decide) (by decide)) h (fun h => ?_) (fun h => ?_)
      · refine z_aload_n cx d_X11_strength_22 23 rfl rfl 0 rfl ?_
        refine z_get cx d_X11_strength_23 26 rfl e_X rfl zX11 7 (by decide) q_544 rfl rfl ?_
        refine y_callV_v (As := []) (rest := []) (W := fun u_2 => wX g X N T Rd Fr Ac Ch u_2.1 Ly u_2.2 OT Ea Ga Im0 Im1) (rm := zrPa_findWeakest) cx (fun _ hq => tPa_findWeakest hq) d_X11_strength_26 29 rfl kk_X7_findWeakest q_1070 q_1071 q_1072 rfl e_Pa rfl ⟨rfl, rfl⟩ ⟨Nat.le_of_ble_eq_true rfl, Nat.le_of_ble_eq_true rfl⟩ rfl rfl (Nat.le_of_ble_eq_true rfl) ⟨Nat.zero_le _, Nat.zero_le _⟩ h (fun u_2 h => ?_)
        refine z_iload_n cx d_X11_strength_29 30 rfl rfl 1 rfl ?_
        refine y_iconst cx d_X11_strength_30 31 rfl ?_
        refine y_icmp_ne cx d_X11_strength_31 34 rfl 42 (by decide) rfl (nm_eq (x := 2) (by decide) (by decide)) h (fun h => ?_) (fun h => ?_)
        · refine z_aload_n cx d_X11_strength_42 43 rfl rfl 0 rfl ?_
          refine z_get cx d_X11_strength_43 46 rfl e_X rfl zX11 7 (by decide) q_544 rfl rfl ?_
          refine y_callV_i (As := []) (rest := []) (W := fun u_3 => wX g X N T Rd Fr Ac Ch u_2.1 Ly u_2.2 OT Ea Ga Im0 Im1) (rf := fun u_3 => zI u_3) (rm := zr0) cx (fun _ hq => tPa_above hq) d_X11_strength_46 49 rfl kk_X7_above q_1093 q_1094 q_1095 rfl e_Pa rfl ⟨rfl, rfl⟩ ⟨Nat.le_of_ble_eq_true rfl, Nat.le_of_ble_eq_true rfl⟩ rfl rfl (Nat.le_of_ble_eq_true rfl) ⟨Nat.zero_le _, Nat.zero_le _⟩ h (fun u_3 h => ?_)
          refine z_aload_n cx d_X11_strength_49 50 rfl rfl 0 rfl ?_
          refine z_get cx d_X11_strength_50 53 rfl e_X rfl zX11 7 (by decide) q_544 rfl rfl ?_
          refine y_callV_i (As := []) (rest := [.int (zI u_3)]) (W := fun u_4 => wX g X N T Rd Fr Ac Ch u_2.1 Ly u_2.2 OT Ea Ga Im0 Im1) (rf := fun u_4 => zI u_4) (rm := zr0) cx (fun _ hq => tPa_pieces hq) d_X11_strength_53 56 rfl kk_X7_pieces q_1089 q_1090 q_1091 rfl e_Pa rfl ⟨rfl, rfl⟩ ⟨Nat.le_of_ble_eq_true rfl, Nat.le_of_ble_eq_true rfl⟩ rfl rfl (Nat.le_of_ble_eq_true rfl) ⟨Nat.zero_le _, Nat.zero_le _⟩ h (fun u_4 h => ?_)
          refine y_iconst cx d_X11_strength_56 57 rfl ?_
          refine y_isub cx d_X11_strength_57 58 rfl ?_
          refine z_iload_n cx d_X11_strength_58 59 rfl rfl 1 rfl ?_
          refine y_callS_i (As := [.int (zI u_3), .int (zI (u_4 - 1)), .int (zI a1)]) (rest := []) (W := fun u_5 => wX g X N T Rd Fr Ac Ch u_2.1 Ly u_2.2 OT Ea Ga Im0 Im1) (rf := fun u_5 => zI u_5) (rm := zr0) cx (fun _ hq => tX_leastTerms hq) d_X11_strength_59 62 rfl kk_X11_leastTerms q_1055 q_1056 ⟨rfl, rfl⟩ ⟨Nat.le_of_ble_eq_true rfl, Nat.le_of_ble_eq_true rfl⟩ rfl rfl (Nat.le_of_ble_eq_true rfl) ⟨Nat.zero_le _, Nat.zero_le _⟩ h (fun u_5 h => ?_)
          subst hQ
          obtain rfl := Option.some.inj h
          exact z_iret cx d_X11_strength_62 rfl rfl
        · refine z_aload_n cx d_X11_strength_34 35 rfl rfl 0 rfl ?_
          refine z_get cx d_X11_strength_35 38 rfl e_X rfl zX11 7 (by decide) q_544 rfl rfl ?_
          refine y_callV_i (As := []) (rest := []) (W := fun u_6 => wX g X N T Rd Fr Ac Ch u_2.1 Ly u_2.2 OT Ea Ga Im0 Im1) (rf := fun u_6 => zI u_6) (rm := zr0) cx (fun _ hq => tPa_pieces hq) d_X11_strength_38 41 rfl kk_X7_pieces q_1089 q_1090 q_1091 rfl e_Pa rfl ⟨rfl, rfl⟩ ⟨Nat.le_of_ble_eq_true rfl, Nat.le_of_ble_eq_true rfl⟩ rfl rfl (Nat.le_of_ble_eq_true rfl) ⟨Nat.zero_le _, Nat.zero_le _⟩ h (fun u_6 h => ?_)
          subst hQ
          obtain rfl := Option.some.inj h
          exact z_iret cx d_X11_strength_41 rfl rfl
      · refine z_sub [] rfl ?_
        exact hk_1  h
def zrX_even : Room := { frames := 5, cells := 0, slots := 0, locals := 110 }
set_option maxHeartbeats 4000000 in
theorem tX_even {l : Launch} {g : ZG} {X : ZB} {N : ZB} {T : ZB} {Rd : ZB} {Fr : ZB} {Ac : ZA} {Ch : ZB} {PS : ZB} {Ly : ZB} {Pa : ZQ} {OT : ZB} {Ea : ZB} {Ga : ZB} {Im0 : ZO} {Im1 : ZO}  {r : Int × ZB} (h : fX_even N PS = some r) : zMi l yX11_even cX11_even 1 (some .int) zrX_even g [.ref (g.2.2 0)] (wX g X N T Rd Fr Ac Ch PS Ly Pa OT Ea Ga Im0 Im1) (wX g X N T Rd Fr Ac Ch r.2 Ly Pa OT Ea Ga Im0 Im1) (zI r.1) := by
  unfold fX_even at h
  refine zMi_q (own := RX11) rfl (by decide +kernel) (Nat.le_of_ble_eq_true rfl) (lv := [(0, .ref (g.2.2 0))]) rfl ⟨rfl, rfl⟩ ?_
  intro p e s m args below meth c A Q hQ cx
  refine z_aload_n cx d_X11_even_0 1 rfl rfl 0 rfl ?_
  refine z_get cx d_X11_even_1 4 rfl e_X rfl zX11 5 (by decide) q_542 rfl rfl ?_
  refine y_callV_i (As := []) (rest := []) (W := fun u_1 => wX g X N T Rd Fr Ac Ch u_1.2 Ly Pa OT Ea Ga Im0 Im1) (rf := fun u_1 => zI u_1.1) (rm := zrPS_leastLoad) cx (fun _ hq => tPS_leastLoad hq) d_X11_even_4 7 rfl kk_X8_leastLoad q_1101 q_1102 q_1103 rfl e_PS rfl ⟨rfl, rfl⟩ ⟨Nat.le_of_ble_eq_true rfl, Nat.le_of_ble_eq_true rfl⟩ rfl rfl (Nat.le_of_ble_eq_true rfl) ⟨Nat.zero_le _, Nat.zero_le _⟩ h (fun u_1 h => ?_)
  subst hQ
  obtain rfl := Option.some.inj h
  exact z_iret cx d_X11_even_7 rfl rfl
def zrX_rooted : Room := { frames := 4, cells := 0, slots := 0, locals := 89 }
set_option maxHeartbeats 4000000 in
theorem tX_rooted {l : Launch} {g : ZG} {X : ZB} {N : ZB} {T : ZB} {Rd : ZB} {Fr : ZB} {Ac : ZA} {Ch : ZB} {PS : ZB} {Ly : ZB} {Pa : ZQ} {OT : ZB} {Ea : ZB} {Ga : ZB} {Im0 : ZO} {Im1 : ZO} {a1 : Int} {r : Int × ZB} (h : fX_rooted N OT a1 = some r) : zMi l yX11_rooted cX11_rooted 2 (some .int) zrX_rooted g [.ref (g.2.2 0), .int (zI a1)] (wX g X N T Rd Fr Ac Ch PS Ly Pa OT Ea Ga Im0 Im1) (wX g X N T Rd Fr Ac Ch PS Ly Pa r.2 Ea Ga Im0 Im1) (zI r.1) := by
  unfold fX_rooted at h
  refine zMi_q (own := RX11) rfl (by decide +kernel) (Nat.le_of_ble_eq_true rfl) (lv := [(0, .ref (g.2.2 0)), (1, .int (zI a1))]) rfl ⟨rfl, rfl⟩ ?_
  intro p e s m args below meth c A Q hQ cx
  refine z_aload_n cx d_X11_rooted_0 1 rfl rfl 0 rfl ?_
  refine z_get cx d_X11_rooted_1 4 rfl e_X rfl zX11 0 (by decide) q_537 rfl rfl ?_
  refine z_get cx d_X11_rooted_4 7 rfl e_N rfl zX5 4 (by decide) q_178 rfl rfl ?_
  refine y_iconst cx d_X11_rooted_7 8 rfl ?_
  refine kf0_f (P := V p l e zrX_rooted s m args below meth c A s.heap g 2 Q (wX g X N T Rd Fr Ac Ch PS Ly Pa OT Ea Ga Im0 Im1) 0 0 [] 26 []) h (fun h => ?_) (fun k_1 hk_1 h => ?_)
  · refine y_iconst cx d_X11_rooted_26 27 rfl ?_
    subst hQ
    obtain rfl := Option.some.inj h
    exact z_iret cx d_X11_rooted_27 rfl rfl
  refine y_icmp_lt cx d_X11_rooted_8 11 rfl 26 (by decide) rfl (nm_eq (x := 2) (by decide) (by decide)) h (fun h => ?_) (fun h => ?_)
  · refine z_sub [] rfl ?_
    exact hk_1  h
  · refine z_iload_n cx d_X11_rooted_11 12 rfl rfl 1 rfl ?_
    refine y_if_lt cx d_X11_rooted_12 15 rfl 26 (by decide) rfl h (fun h => ?_) (fun h => ?_)
    · refine z_sub [] rfl ?_
      exact hk_1  h
    · refine z_iload_n cx d_X11_rooted_15 16 rfl rfl 1 rfl ?_
      refine z_aload_n cx d_X11_rooted_16 17 rfl rfl 0 rfl ?_
      refine z_get cx d_X11_rooted_17 20 rfl e_X rfl zX11 0 (by decide) q_537 rfl rfl ?_
      refine z_get cx d_X11_rooted_20 23 rfl e_N rfl zX5 4 (by decide) q_178 rfl rfl ?_
      refine y_icmp_lt cx d_X11_rooted_23 26 rfl 28 (by decide) rfl rfl h (fun h => ?_) (fun h => ?_)
      · refine z_aload_n cx d_X11_rooted_28 29 rfl rfl 0 rfl ?_
        refine z_get cx d_X11_rooted_29 32 rfl e_X rfl zX11 8 (by decide) q_545 rfl rfl ?_
        refine z_iload_n cx d_X11_rooted_32 33 rfl rfl 1 rfl ?_
        refine y_callV_i (As := [.int (zI a1)]) (rest := []) (W := fun u_2 => wX g X N T Rd Fr Ac Ch PS Ly Pa u_2.2 Ea Ga Im0 Im1) (rf := fun u_2 => zI u_2.1) (rm := zrOT_countFrom) cx (fun _ hq => tOT_countFrom hq) d_X11_rooted_33 36 rfl kk_X6_countFrom q_1109 q_1110 q_1111 rfl e_OT rfl ⟨rfl, rfl⟩ ⟨Nat.le_of_ble_eq_true rfl, Nat.le_of_ble_eq_true rfl⟩ rfl rfl (Nat.le_of_ble_eq_true rfl) ⟨Nat.zero_le _, Nat.zero_le _⟩ h (fun u_2 h => ?_)
        subst hQ
        obtain rfl := Option.some.inj h
        exact z_iret cx d_X11_rooted_36 rfl rfl
      · refine z_sub [] rfl ?_
        exact hk_1  h
def zrX_outTree : Room := { frames := 6, cells := 0, slots := 0, locals := 146 }
set_option maxHeartbeats 4000000 in
theorem tX_outTree {l : Launch} {g : ZG} {X : ZB} {N : ZB} {T : ZB} {Rd : ZB} {Fr : ZB} {Ac : ZA} {Ch : ZB} {PS : ZB} {Ly : ZB} {Pa : ZQ} {OT : ZB} {Ea : ZB} {Ga : ZB} {Im0 : ZO} {Im1 : ZO} {a1 : Int} {a2 : Int} {r : Int × ZB} (h : fX_outTree N OT a1 a2 = some r) : zMi l yX11_outTree cX11_outTree 3 (some .int) zrX_outTree g [.ref (g.2.2 0), .int (zI a1), .int (zI a2)] (wX g X N T Rd Fr Ac Ch PS Ly Pa OT Ea Ga Im0 Im1) (wX g X N T Rd Fr Ac Ch PS Ly Pa r.2 Ea Ga Im0 Im1) (zI r.1) := by
  unfold fX_outTree at h
  refine zMi_q (own := RX11) rfl (by decide +kernel) (Nat.le_of_ble_eq_true rfl) (lv := [(0, .ref (g.2.2 0)), (1, .int (zI a1)), (2, .int (zI a2))]) rfl ⟨rfl, rfl⟩ ?_
  intro p e s m args below meth c A Q hQ cx
  refine z_aload_n cx d_X11_outTree_0 1 rfl rfl 0 rfl ?_
  refine z_get cx d_X11_outTree_1 4 rfl e_X rfl zX11 0 (by decide) q_537 rfl rfl ?_
  refine z_get cx d_X11_outTree_4 7 rfl e_N rfl zX5 4 (by decide) q_178 rfl rfl ?_
  refine y_iconst cx d_X11_outTree_7 8 rfl ?_
  refine kf0_f (P := V p l e zrX_outTree s m args below meth c A s.heap g 3 Q (wX g X N T Rd Fr Ac Ch PS Ly Pa OT Ea Ga Im0 Im1) 0 0 [] 26 []) h (fun h => ?_) (fun k_1 hk_1 h => ?_)
  · refine y_iconst cx d_X11_outTree_26 27 rfl ?_
    subst hQ
    obtain rfl := Option.some.inj h
    exact z_iret cx d_X11_outTree_27 rfl rfl
  refine y_icmp_lt cx d_X11_outTree_8 11 rfl 26 (by decide) rfl (nm_eq (x := 2) (by decide) (by decide)) h (fun h => ?_) (fun h => ?_)
  · refine z_sub [] rfl ?_
    exact hk_1  h
  · refine z_iload_n cx d_X11_outTree_11 12 rfl rfl 1 rfl ?_
    refine y_if_lt cx d_X11_outTree_12 15 rfl 26 (by decide) rfl h (fun h => ?_) (fun h => ?_)
    · refine z_sub [] rfl ?_
      exact hk_1  h
    · refine z_iload_n cx d_X11_outTree_15 16 rfl rfl 1 rfl ?_
      refine z_aload_n cx d_X11_outTree_16 17 rfl rfl 0 rfl ?_
      refine z_get cx d_X11_outTree_17 20 rfl e_X rfl zX11 0 (by decide) q_537 rfl rfl ?_
      refine z_get cx d_X11_outTree_20 23 rfl e_N rfl zX5 4 (by decide) q_178 rfl rfl ?_
      refine y_icmp_lt cx d_X11_outTree_23 26 rfl 28 (by decide) rfl rfl h (fun h => ?_) (fun h => ?_)
      · refine z_aload_n cx d_X11_outTree_28 29 rfl rfl 0 rfl ?_
        refine z_get cx d_X11_outTree_29 32 rfl e_X rfl zX11 8 (by decide) q_545 rfl rfl ?_
        refine z_iload_n cx d_X11_outTree_32 33 rfl rfl 1 rfl ?_
        refine z_iload_n cx d_X11_outTree_33 34 rfl rfl 2 rfl ?_
        refine y_callV_i (As := [.int (zI a1), .int (zI a2)]) (rest := []) (W := fun u_2 => wX g X N T Rd Fr Ac Ch PS Ly Pa u_2.2 Ea Ga Im0 Im1) (rf := fun u_2 => zI u_2.1) (rm := zrOT_treeSet) cx (fun _ hq => tOT_treeSet hq) d_X11_outTree_34 37 rfl kk_X6_treeSet q_1130 q_1131 q_1132 rfl e_OT rfl ⟨rfl, rfl⟩ ⟨Nat.le_of_ble_eq_true rfl, Nat.le_of_ble_eq_true rfl⟩ rfl rfl (Nat.le_of_ble_eq_true rfl) ⟨Nat.zero_le _, Nat.zero_le _⟩ h (fun u_2 h => ?_)
        subst hQ
        obtain rfl := Option.some.inj h
        exact z_iret cx d_X11_outTree_37 rfl rfl
      · refine z_sub [] rfl ?_
        exact hk_1  h
def zrX_vital : Room := { frames := 5, cells := 0, slots := 0, locals := 115 }
set_option maxHeartbeats 4000000 in
theorem tX_vital {l : Launch} {g : ZG} {X : ZB} {N : ZB} {T : ZB} {Rd : ZB} {Fr : ZB} {Ac : ZA} {Ch : ZB} {PS : ZB} {Ly : ZB} {Pa : ZQ} {OT : ZB} {Ea : ZB} {Ga : ZB} {Im0 : ZO} {Im1 : ZO}  {r : Int × ZB} (h : fX_vital N PS = some r) : zMi l yX11_vital cX11_vital 1 (some .int) zrX_vital g [.ref (g.2.2 0)] (wX g X N T Rd Fr Ac Ch PS Ly Pa OT Ea Ga Im0 Im1) (wX g X N T Rd Fr Ac Ch r.2 Ly Pa OT Ea Ga Im0 Im1) (zI r.1) := by
  unfold fX_vital at h
  refine zMi_q (own := RX11) rfl (by decide +kernel) (Nat.le_of_ble_eq_true rfl) (lv := [(0, .ref (g.2.2 0))]) rfl ⟨rfl, rfl⟩ ?_
  intro p e s m args below meth c A Q hQ cx
  refine z_aload_n cx d_X11_vital_0 1 rfl rfl 0 rfl ?_
  refine z_get cx d_X11_vital_1 4 rfl e_X rfl zX11 5 (by decide) q_542 rfl rfl ?_
  refine z_aload_n cx d_X11_vital_4 5 rfl rfl 0 rfl ?_
  refine z_get cx d_X11_vital_5 8 rfl e_X rfl zX11 0 (by decide) q_537 rfl rfl ?_
  refine z_get cx d_X11_vital_8 11 rfl e_N rfl zX5 6 (by decide) q_191 rfl rfl ?_
  refine y_callV_i (As := [.int (zI (N.1 6))]) (rest := []) (W := fun u_1 => wX g X N T Rd Fr Ac Ch u_1.2 Ly Pa OT Ea Ga Im0 Im1) (rf := fun u_1 => zI u_1.1) (rm := zrPS_vitalSet) cx (fun _ hq => tPS_vitalSet hq) d_X11_vital_11 14 rfl kk_X8_vitalSet q_1152 q_1153 q_1154 rfl e_PS rfl ⟨rfl, rfl⟩ ⟨Nat.le_of_ble_eq_true rfl, Nat.le_of_ble_eq_true rfl⟩ rfl rfl (Nat.le_of_ble_eq_true rfl) ⟨Nat.zero_le _, Nat.zero_le _⟩ h (fun u_1 h => ?_)
  subst hQ
  obtain rfl := Option.some.inj h
  exact z_iret cx d_X11_vital_14 rfl rfl
def zrX_layers : Room := { frames := 4, cells := 0, slots := 0, locals := 94 }
set_option maxHeartbeats 4000000 in
theorem tX_layers {l : Launch} {g : ZG} {X : ZB} {N : ZB} {T : ZB} {Rd : ZB} {Fr : ZB} {Ac : ZA} {Ch : ZB} {PS : ZB} {Ly : ZB} {Pa : ZQ} {OT : ZB} {Ea : ZB} {Ga : ZB} {Im0 : ZO} {Im1 : ZO}  {r : Int × ZB × ZB} (h : fX_layers N PS Ly = some r) : zMi l yX11_layers cX11_layers 1 (some .int) zrX_layers g [.ref (g.2.2 0)] (wX g X N T Rd Fr Ac Ch PS Ly Pa OT Ea Ga Im0 Im1) (wX g X N T Rd Fr Ac Ch r.2.1 r.2.2 Pa OT Ea Ga Im0 Im1) (zI r.1) := by
  unfold fX_layers at h
  refine zMi_q (own := RX11) rfl (by decide +kernel) (Nat.le_of_ble_eq_true rfl) (lv := [(0, .ref (g.2.2 0))]) rfl ⟨rfl, rfl⟩ ?_
  intro p e s m args below meth c A Q hQ cx
  refine z_aload_n cx d_X11_layers_0 1 rfl rfl 0 rfl ?_
  refine z_get cx d_X11_layers_1 4 rfl e_X rfl zX11 6 (by decide) q_543 rfl rfl ?_
  refine y_callV_i (As := []) (rest := []) (W := fun u_1 => wX g X N T Rd Fr Ac Ch u_1.2.1 u_1.2.2 Pa OT Ea Ga Im0 Im1) (rf := fun u_1 => zI u_1.1) (rm := zrLy_melt) cx (fun _ hq => tLy_melt hq) d_X11_layers_4 7 rfl kk_X4_melt q_1169 q_1170 q_1171 rfl e_Ly rfl ⟨rfl, rfl⟩ ⟨Nat.le_of_ble_eq_true rfl, Nat.le_of_ble_eq_true rfl⟩ rfl rfl (Nat.le_of_ble_eq_true rfl) ⟨Nat.zero_le _, Nat.zero_le _⟩ h (fun u_1 h => ?_)
  subst hQ
  obtain rfl := Option.some.inj h
  exact z_iret cx d_X11_layers_7 rfl rfl
def zrX_layerAt : Room := { frames := 4, cells := 0, slots := 0, locals := 94 }
set_option maxHeartbeats 4000000 in
theorem tX_layerAt {l : Launch} {g : ZG} {X : ZB} {N : ZB} {T : ZB} {Rd : ZB} {Fr : ZB} {Ac : ZA} {Ch : ZB} {PS : ZB} {Ly : ZB} {Pa : ZQ} {OT : ZB} {Ea : ZB} {Ga : ZB} {Im0 : ZO} {Im1 : ZO} {a1 : Int} {a2 : Int} {r : Int × ZB × ZB} (h : fX_layerAt N PS Ly a1 a2 = some r) : zMi l yX11_layerAt cX11_layerAt 3 (some .int) zrX_layerAt g [.ref (g.2.2 0), .int (zI a1), .int (zI a2)] (wX g X N T Rd Fr Ac Ch PS Ly Pa OT Ea Ga Im0 Im1) (wX g X N T Rd Fr Ac Ch r.2.1 r.2.2 Pa OT Ea Ga Im0 Im1) (zI r.1) := by
  unfold fX_layerAt at h
  refine zMi_q (own := RX11) rfl (by decide +kernel) (Nat.le_of_ble_eq_true rfl) (lv := [(0, .ref (g.2.2 0)), (1, .int (zI a1)), (2, .int (zI a2))]) rfl ⟨rfl, rfl⟩ ?_
  intro p e s m args below meth c A Q hQ cx
  refine z_iload_n cx d_X11_layerAt_0 1 rfl rfl 1 rfl ?_
  refine kf2_f (P := fun (PS_1 : ZB) (Ly_2 : ZB) => V p l e zrX_layerAt s m args below meth c A s.heap g 3 Q (wX g X N T Rd Fr Ac Ch PS_1 Ly_2 Pa OT Ea Ga Im0 Im1) 0 0 [] 24 []) h (fun PS_1 Ly_2 h => ?_) (fun k_3 hk_3 h => ?_)
  · refine y_iconst cx d_X11_layerAt_24 25 rfl ?_
    subst hQ
    obtain rfl := Option.some.inj h
    exact z_iret cx d_X11_layerAt_25 rfl rfl
  refine y_if_lt cx d_X11_layerAt_1 4 rfl 24 (by decide) rfl h (fun h => ?_) (fun h => ?_)
  · refine z_sub [] rfl ?_
    exact hk_3 _ _ h
  · refine z_iload_n cx d_X11_layerAt_4 5 rfl rfl 1 rfl ?_
    refine z_aload_n cx d_X11_layerAt_5 6 rfl rfl 0 rfl ?_
    refine z_get cx d_X11_layerAt_6 9 rfl e_X rfl zX11 6 (by decide) q_543 rfl rfl ?_
    refine y_callV_i (As := []) (rest := [.int (zI a1)]) (W := fun u_4 => wX g X N T Rd Fr Ac Ch u_4.2.1 u_4.2.2 Pa OT Ea Ga Im0 Im1) (rf := fun u_4 => zI u_4.1) (rm := zrLy_melt) cx (fun _ hq => tLy_melt hq) d_X11_layerAt_9 12 rfl kk_X4_melt q_1169 q_1170 q_1171 rfl e_Ly rfl ⟨rfl, rfl⟩ ⟨Nat.le_of_ble_eq_true rfl, Nat.le_of_ble_eq_true rfl⟩ rfl rfl (Nat.le_of_ble_eq_true rfl) ⟨Nat.zero_le _, Nat.zero_le _⟩ h (fun u_4 h => ?_)
    refine y_icmp_ge cx d_X11_layerAt_12 15 rfl 24 (by decide) rfl rfl h (fun h => ?_) (fun h => ?_)
    · refine z_sub [] rfl ?_
      exact hk_3 _ _ h
    · refine z_iload_n cx d_X11_layerAt_15 16 rfl rfl 2 rfl ?_
      refine y_if_lt cx d_X11_layerAt_16 19 rfl 24 (by decide) rfl h (fun h => ?_) (fun h => ?_)
      · refine z_sub [] rfl ?_
        exact hk_3 _ _ h
      · refine z_iload_n cx d_X11_layerAt_19 20 rfl rfl 2 rfl ?_
        refine y_iconst cx d_X11_layerAt_20 21 rfl ?_
        refine y_icmp_le cx d_X11_layerAt_21 24 rfl 26 (by decide) rfl (nm_eq (x := 2) (by decide) (by decide)) h (fun h => ?_) (fun h => ?_)
        · refine z_iload_n cx d_X11_layerAt_26 27 rfl rfl 2 rfl ?_
          refine y_iconst cx d_X11_layerAt_27 28 rfl ?_
          refine y_icmp_ne cx d_X11_layerAt_28 31 rfl 40 (by decide) rfl (nm_eq (x := 2) (by decide) (by decide)) h (fun h => ?_) (fun h => ?_)
          · refine z_aload_n cx d_X11_layerAt_40 41 rfl rfl 0 rfl ?_
            refine z_get cx d_X11_layerAt_41 44 rfl e_X rfl zX11 6 (by decide) q_543 rfl rfl ?_
            refine z_iload_n cx d_X11_layerAt_44 45 rfl rfl 1 rfl ?_
            refine y_callV_i (As := [.int (zI a1)]) (rest := []) (W := fun u_5 => wX g X N T Rd Fr Ac Ch u_4.2.1 u_4.2.2 Pa OT Ea Ga Im0 Im1) (rf := fun u_5 => zI u_5) (rm := zr0) cx (fun _ hq => tLy_aboveAt hq) d_X11_layerAt_45 48 rfl kk_X4_aboveAt q_1196 q_1197 q_1198 rfl e_Ly rfl ⟨rfl, rfl⟩ ⟨Nat.le_of_ble_eq_true rfl, Nat.le_of_ble_eq_true rfl⟩ rfl rfl (Nat.le_of_ble_eq_true rfl) ⟨Nat.zero_le _, Nat.zero_le _⟩ h (fun u_5 h => ?_)
            refine z_aload_n cx d_X11_layerAt_48 49 rfl rfl 0 rfl ?_
            refine z_get cx d_X11_layerAt_49 52 rfl e_X rfl zX11 6 (by decide) q_543 rfl rfl ?_
            refine z_iload_n cx d_X11_layerAt_52 53 rfl rfl 1 rfl ?_
            refine y_callV_i (As := [.int (zI a1)]) (rest := [.int (zI u_5)]) (W := fun u_6 => wX g X N T Rd Fr Ac Ch u_4.2.1 u_4.2.2 Pa OT Ea Ga Im0 Im1) (rf := fun u_6 => zI u_6) (rm := zr0) cx (fun _ hq => tLy_belowAt hq) d_X11_layerAt_53 56 rfl kk_X4_belowAt q_1200 q_1201 q_1202 rfl e_Ly rfl ⟨rfl, rfl⟩ ⟨Nat.le_of_ble_eq_true rfl, Nat.le_of_ble_eq_true rfl⟩ rfl rfl (Nat.le_of_ble_eq_true rfl) ⟨Nat.zero_le _, Nat.zero_le _⟩ h (fun u_6 h => ?_)
            refine z_iload_n cx d_X11_layerAt_56 57 rfl rfl 2 rfl ?_
            refine y_callS_i (As := [.int (zI u_5), .int (zI u_6), .int (zI a2)]) (rest := []) (W := fun u_7 => wX g X N T Rd Fr Ac Ch u_4.2.1 u_4.2.2 Pa OT Ea Ga Im0 Im1) (rf := fun u_7 => zI u_7) (rm := zr0) cx (fun _ hq => tX_leastTerms hq) d_X11_layerAt_57 60 rfl kk_X11_leastTerms q_1055 q_1056 ⟨rfl, rfl⟩ ⟨Nat.le_of_ble_eq_true rfl, Nat.le_of_ble_eq_true rfl⟩ rfl rfl (Nat.le_of_ble_eq_true rfl) ⟨Nat.zero_le _, Nat.zero_le _⟩ h (fun u_7 h => ?_)
            subst hQ
            obtain rfl := Option.some.inj h
            exact z_iret cx d_X11_layerAt_60 rfl rfl
          · refine z_aload_n cx d_X11_layerAt_31 32 rfl rfl 0 rfl ?_
            refine z_get cx d_X11_layerAt_32 35 rfl e_X rfl zX11 6 (by decide) q_543 rfl rfl ?_
            refine z_iload_n cx d_X11_layerAt_35 36 rfl rfl 1 rfl ?_
            refine y_callV_i (As := [.int (zI a1)]) (rest := []) (W := fun u_8 => wX g X N T Rd Fr Ac Ch u_4.2.1 u_4.2.2 Pa OT Ea Ga Im0 Im1) (rf := fun u_8 => zI u_8) (rm := zr0) cx (fun _ hq => tLy_setAt hq) d_X11_layerAt_36 39 rfl kk_X4_setAt q_1192 q_1193 q_1194 rfl e_Ly rfl ⟨rfl, rfl⟩ ⟨Nat.le_of_ble_eq_true rfl, Nat.le_of_ble_eq_true rfl⟩ rfl rfl (Nat.le_of_ble_eq_true rfl) ⟨Nat.zero_le _, Nat.zero_le _⟩ h (fun u_8 h => ?_)
            subst hQ
            obtain rfl := Option.some.inj h
            exact z_iret cx d_X11_layerAt_39 rfl rfl
        · refine z_sub [] rfl ?_
          exact hk_3 _ _ h
def zrX_light : Room := { frames := 4, cells := 0, slots := 0, locals := 91 }
set_option maxHeartbeats 4000000 in
theorem tX_light {l : Launch} {g : ZG} {X : ZB} {N : ZB} {T : ZB} {Rd : ZB} {Fr : ZB} {Ac : ZA} {Ch : ZB} {PS : ZB} {Ly : ZB} {Pa : ZQ} {OT : ZB} {Ea : ZB} {Ga : ZB} {Im0 : ZO} {Im1 : ZO} {a1 : Int} {a2 : Int} {r : Int × ZB} (h : fX_light N PS a1 a2 = some r) : zMi l yX11_light cX11_light 4 (some .int) zrX_light g [.ref (g.2.2 0), .int (zI a1), .int (zI a2)] (wX g X N T Rd Fr Ac Ch PS Ly Pa OT Ea Ga Im0 Im1) (wX g X N T Rd Fr Ac Ch r.2 Ly Pa OT Ea Ga Im0 Im1) (zI r.1) := by
  unfold fX_light at h
  refine zMi_q (own := RX11) rfl (by decide +kernel) (Nat.le_of_ble_eq_true rfl) (lv := [(0, .ref (g.2.2 0)), (1, .int (zI a1)), (2, .int (zI a2))]) rfl ⟨rfl, rfl⟩ ?_
  intro p e s m args below meth c A Q hQ cx
  refine z_iload_n cx d_X11_light_0 1 rfl rfl 1 rfl ?_
  refine kf0_f (P := V p l e zrX_light s m args below meth c A s.heap g 4 Q (wX g X N T Rd Fr Ac Ch PS Ly Pa OT Ea Ga Im0 Im1) 0 0 [] 19 []) h (fun h => ?_) (fun k_1 hk_1 h => ?_)
  · refine y_iconst cx d_X11_light_19 20 rfl ?_
    subst hQ
    obtain rfl := Option.some.inj h
    exact z_iret cx d_X11_light_20 rfl rfl
  refine y_if_lt cx d_X11_light_1 4 rfl 19 (by decide) rfl h (fun h => ?_) (fun h => ?_)
  · refine z_sub [] rfl ?_
    exact hk_1  h
  · refine z_iload_n cx d_X11_light_4 5 rfl rfl 1 rfl ?_
    refine y_bipush cx d_X11_light_5 7 rfl (by decide) ?_
    refine y_icmp_gt cx d_X11_light_7 10 rfl 19 (by decide) rfl (nm_eq (x := 24) (by decide) (by decide)) h (fun h => ?_) (fun h => ?_)
    · refine z_sub [] rfl ?_
      exact hk_1  h
    · refine z_iload_n cx d_X11_light_10 11 rfl rfl 2 rfl ?_
      refine y_if_lt cx d_X11_light_11 14 rfl 19 (by decide) rfl h (fun h => ?_) (fun h => ?_)
      · refine z_sub [] rfl ?_
        exact hk_1  h
      · refine z_iload_n cx d_X11_light_14 15 rfl rfl 2 rfl ?_
        refine y_iconst cx d_X11_light_15 16 rfl ?_
        refine y_icmp_le cx d_X11_light_16 19 rfl 21 (by decide) rfl (nm_eq (x := 1) (by decide) (by decide)) h (fun h => ?_) (fun h => ?_)
        · refine z_aload_n cx d_X11_light_21 22 rfl rfl 0 rfl ?_
          refine z_get cx d_X11_light_22 25 rfl e_X rfl zX11 5 (by decide) q_542 rfl rfl ?_
          refine z_iload_n cx d_X11_light_25 26 rfl rfl 1 rfl ?_
          refine y_callV_i (As := [.int (zI a1)]) (rest := []) (W := fun u_2 => wX g X N T Rd Fr Ac Ch u_2.2 Ly Pa OT Ea Ga Im0 Im1) (rf := fun u_2 => zI u_2.1) (rm := zrPS_takeByWeight) cx (fun _ hq => tPS_takeByWeight hq) d_X11_light_26 29 rfl kk_X8_takeByWeight q_1208 q_1209 q_1210 rfl e_PS rfl ⟨rfl, rfl⟩ ⟨Nat.le_of_ble_eq_true rfl, Nat.le_of_ble_eq_true rfl⟩ rfl rfl (Nat.le_of_ble_eq_true rfl) ⟨Nat.zero_le _, Nat.zero_le _⟩ h (fun u_2 h => ?_)
          refine y_istore_n cx d_X11_light_29 30 rfl rfl (by decide) (lv' := [(3, .int (zI u_2.1)), (0, .ref (g.2.2 0)), (1, .int (zI a1)), (2, .int (zI a2))]) rfl ?_
          refine z_iload_n cx d_X11_light_30 31 rfl rfl 3 rfl ?_
          refine y_iconst cx d_X11_light_31 32 rfl ?_
          refine kf1_f (P := fun (w0_3 : Int) => V p l e zrX_light s m args below meth c A s.heap g 4 Q (wX g X N T Rd Fr Ac Ch u_2.2 Ly Pa OT Ea Ga Im0 Im1) 0 0 [] 47 [.int (zI w0_3)]) h (fun w0_3 h => ?_) (fun k_4 hk_4 h => ?_)
          · subst hQ
            obtain rfl := Option.some.inj h
            exact z_iret cx d_X11_light_47 rfl rfl
          refine y_icmp_ne cx d_X11_light_32 35 rfl 39 (by decide) rfl (nm_eq (x := 1) (by decide) (by decide)) h (fun h => ?_) (fun h => ?_)
          · refine z_aload_n cx d_X11_light_39 40 rfl rfl 1 rfl ?_
            refine z_get cx d_X11_light_40 43 rfl e_X rfl zX11 0 (by decide) q_537 rfl rfl ?_
            refine z_iload_n cx d_X11_light_43 44 rfl rfl 0 rfl ?_
            refine y_callV_i (As := [.int (zI u_2.1)]) (rest := []) (W := fun u_5 => wX g X N T Rd Fr Ac Ch u_2.2 Ly Pa OT Ea Ga Im0 Im1) (rf := fun u_5 => zI u_5) (rm := zr0) cx (fun _ hq => tN_weightOf hq) d_X11_light_44 47 rfl kk_X5_weightOf q_1212 q_1213 q_1214 rfl e_N rfl ⟨rfl, rfl⟩ ⟨Nat.le_of_ble_eq_true rfl, Nat.le_of_ble_eq_true rfl⟩ rfl rfl (Nat.le_of_ble_eq_true rfl) ⟨Nat.zero_le _, Nat.zero_le _⟩ h (fun u_5 h => ?_)
            refine z_sub [] rfl ?_
            exact hk_4 _ h
          · refine z_iload_n cx d_X11_light_35 36 rfl rfl 0 rfl ?_
            refine z_goto cx d_X11_light_36 47 (by decide) ?_
            refine z_sub [] rfl ?_
            exact hk_4 _ h
        · refine z_sub [] rfl ?_
          exact hk_1  h
set_option maxHeartbeats 4000000 in
theorem tX_draw {l : Launch} {g : ZG} {X : ZB} {N : ZB} {T : ZB} {Rd : ZB} {Fr : ZB} {Ac : ZA} {Ch : ZB} {PS : ZB} {Ly : ZB} {Pa : ZQ} {OT : ZB} {Ea : ZB} {Ga : ZB} {Im0 : ZO} {Im1 : ZO} {a1 : Int} {r : Int × ZB} (h : fX_draw X a1 = some r) : zMi l yX11_draw cX11_draw 2 (some .int) zr0 g [.ref (g.2.2 0), .int (zI a1)] (wX g X N T Rd Fr Ac Ch PS Ly Pa OT Ea Ga Im0 Im1) (wX g r.2 N T Rd Fr Ac Ch PS Ly Pa OT Ea Ga Im0 Im1) (zI r.1) := by
  unfold fX_draw at h
  refine zMi_q (own := RX11) rfl (by decide +kernel) (Nat.le_of_ble_eq_true rfl) (lv := [(0, .ref (g.2.2 0)), (1, .int (zI a1))]) rfl ⟨rfl, rfl⟩ ?_
  intro p e s m args below meth c A Q hQ cx
  refine z_aload_n cx d_X11_draw_0 1 rfl rfl 0 rfl ?_
  refine z_aload_n cx d_X11_draw_1 2 rfl rfl 0 rfl ?_
  refine z_get cx d_X11_draw_2 5 rfl e_X rfl zX11 12 (by decide) q_549 rfl rfl ?_
  refine y_ldc_w cx 1103515245 d_X11_draw_5 8 rfl q_1228 ?_
  refine y_imul cx d_X11_draw_8 9 rfl ?_
  refine y_sipush cx d_X11_draw_9 12 rfl (by decide) ?_
  refine y_iadd cx d_X11_draw_12 13 rfl ?_
  refine y_put cx d_X11_draw_13 16 rfl e_X rfl zX11 tyX11_ok nmX11 12 (by decide) q_549 rfl rfl rfl rfl (Nat.le_of_ble_eq_true rfl) h (fun _ h9 => s_X_12 h9) (fun X_1 h => ?_)
  refine z_iload_n cx d_X11_draw_16 17 rfl rfl 1 rfl ?_
  refine y_iconst cx d_X11_draw_17 18 rfl ?_
  refine kf1_f (P := fun (w0_2 : Int) => V p l e zr0 s m args below meth c A s.heap g 2 Q (wX g X_1 N T Rd Fr Ac Ch PS Ly Pa OT Ea Ga Im0 Im1) 0 0 [] 34 [.int (zI w0_2)]) h (fun w0_2 h => ?_) (fun k_3 hk_3 h => ?_)
  · subst hQ
    obtain rfl := Option.some.inj h
    exact z_iret cx d_X11_draw_34 rfl rfl
  refine y_icmp_ge cx d_X11_draw_18 21 rfl 25 (by decide) rfl (nm_eq (x := 1) (by decide) (by decide)) h (fun h => ?_) (fun h => ?_)
  · refine z_aload_n cx d_X11_draw_25 26 rfl rfl 0 rfl ?_
    refine z_get cx d_X11_draw_26 29 rfl e_X rfl zX11 12 (by decide) q_549 rfl rfl ?_
    refine y_bipush cx d_X11_draw_29 31 rfl (by decide) ?_
    refine y_iushr cx d_X11_draw_31 32 rfl ?_
    refine z_iload_n cx d_X11_draw_32 33 rfl rfl 1 rfl ?_
    refine y_irem cx d_X11_draw_33 34 rfl h (fun h => ?_)
    refine z_sub [] rfl ?_
    exact hk_3 _ h
  · refine y_iconst cx d_X11_draw_21 22 rfl ?_
    refine z_goto cx d_X11_draw_22 34 (by decide) ?_
    refine z_sub [] rfl ?_
    exact hk_3 _ h
def zrX_deedTrade : Room := { frames := 3, cells := 0, slots := 0, locals := 79 }
set_option maxHeartbeats 4000000 in
theorem tX_deedTrade {l : Launch} {g : ZG} {X : ZB} {N : ZB} {T : ZB} {Rd : ZB} {Fr : ZB} {Ac : ZA} {Ch : ZB} {PS : ZB} {Ly : ZB} {Pa : ZQ} {OT : ZB} {Ea : ZB} {Ga : ZB} {Im0 : ZO} {Im1 : ZO} {a1 : Int} {a2 : Int} {r : Int × ZB × ZB} (h : fX_deedTrade N Ch a1 a2 = some r) : zMi l yX11_deedTrade cX11_deedTrade 4 (some .boolean) zrX_deedTrade g [.ref (g.2.2 0), .int (zI a1), .int (zI a2)] (wX g X N T Rd Fr Ac Ch PS Ly Pa OT Ea Ga Im0 Im1) (wX g X r.2.1 T Rd Fr Ac r.2.2 PS Ly Pa OT Ea Ga Im0 Im1) (zI r.1) := by
  unfold fX_deedTrade at h
  refine zMi_q (own := RX11) rfl (by decide +kernel) (Nat.le_of_ble_eq_true rfl) (lv := [(0, .ref (g.2.2 0)), (1, .int (zI a1)), (2, .int (zI a2))]) rfl ⟨rfl, rfl⟩ ?_
  intro p e s m args below meth c A Q hQ cx
  refine z_aload_n cx d_X11_deedTrade_0 1 rfl rfl 0 rfl ?_
  refine z_get cx d_X11_deedTrade_1 4 rfl e_X rfl zX11 4 (by decide) q_541 rfl rfl ?_
  refine z_iload_n cx d_X11_deedTrade_4 5 rfl rfl 1 rfl ?_
  refine z_iload_n cx d_X11_deedTrade_5 6 rfl rfl 2 rfl ?_
  refine y_callV_i (As := [.int (zI a1), .int (zI a2)]) (rest := []) (W := fun u_1 => wX g X N T Rd Fr Ac u_1.2 PS Ly Pa OT Ea Ga Im0 Im1) (rf := fun u_1 => zI u_1.1) (rm := zrCh_traded) cx (fun _ hq => tCh_traded hq) d_X11_deedTrade_6 9 rfl kk_X1_traded q_859 q_860 q_861 rfl e_Ch rfl ⟨rfl, rfl⟩ ⟨Nat.le_of_ble_eq_true rfl, Nat.le_of_ble_eq_true rfl⟩ rfl rfl (Nat.le_of_ble_eq_true rfl) ⟨Nat.zero_le _, Nat.zero_le _⟩ h (fun u_1 h => ?_)
  refine y_istore_n cx d_X11_deedTrade_9 10 rfl rfl (by decide) (lv' := [(3, .int (zI u_1.1)), (0, .ref (g.2.2 0)), (1, .int (zI a1)), (2, .int (zI a2))]) rfl ?_
  refine z_iload_n cx d_X11_deedTrade_10 11 rfl rfl 0 rfl ?_
  refine y_iconst cx d_X11_deedTrade_11 12 rfl ?_
  refine y_icmp_ne cx d_X11_deedTrade_12 15 rfl 17 (by decide) rfl (nm_eq (x := (-1)) (by decide) (by decide)) h (fun h => ?_) (fun h => ?_)
  · refine z_aload_n cx d_X11_deedTrade_17 18 rfl rfl 1 rfl ?_
    refine z_get cx d_X11_deedTrade_18 21 rfl e_X rfl zX11 4 (by decide) q_541 rfl rfl ?_
    refine z_iload_n cx d_X11_deedTrade_21 22 rfl rfl 2 rfl ?_
    refine z_iload_n cx d_X11_deedTrade_22 23 rfl rfl 0 rfl ?_
    refine y_callV_v (As := [.int (zI a1), .int (zI u_1.1)]) (rest := []) (W := fun u_2 => wX g X u_2 T Rd Fr Ac u_1.2 PS Ly Pa OT Ea Ga Im0 Im1) (rm := zr0) cx (fun _ hq => tCh_swap hq) d_X11_deedTrade_23 26 rfl kk_X1_swap q_869 q_870 q_871 rfl e_Ch rfl ⟨rfl, rfl⟩ ⟨Nat.le_of_ble_eq_true rfl, Nat.le_of_ble_eq_true rfl⟩ rfl rfl (Nat.le_of_ble_eq_true rfl) ⟨Nat.zero_le _, Nat.zero_le _⟩ h (fun u_2 h => ?_)
    refine y_iconst cx d_X11_deedTrade_26 27 rfl ?_
    subst hQ
    obtain rfl := Option.some.inj h
    exact z_zret cx d_X11_deedTrade_27 (zb01 (by decide)) rfl rfl
  · refine y_iconst cx d_X11_deedTrade_15 16 rfl ?_
    subst hQ
    obtain rfl := Option.some.inj h
    exact z_zret cx d_X11_deedTrade_16 (zb01 (by decide)) rfl rfl
def zrX_deedPut : Room := { frames := 3, cells := 0, slots := 0, locals := 76 }
set_option maxHeartbeats 4000000 in
theorem tX_deedPut {l : Launch} {g : ZG} {X : ZB} {N : ZB} {T : ZB} {Rd : ZB} {Fr : ZB} {Ac : ZA} {Ch : ZB} {PS : ZB} {Ly : ZB} {Pa : ZQ} {OT : ZB} {Ea : ZB} {Ga : ZB} {Im0 : ZO} {Im1 : ZO} {a1 : Int} {a2 : Int} {r : Int × ZB × ZB} (h : fX_deedPut N Ch a1 a2 = some r) : zMi l yX11_deedPut cX11_deedPut 3 (some .boolean) zrX_deedPut g [.ref (g.2.2 0), .int (zI a1), .int (zI a2)] (wX g X N T Rd Fr Ac Ch PS Ly Pa OT Ea Ga Im0 Im1) (wX g X r.2.1 T Rd Fr Ac r.2.2 PS Ly Pa OT Ea Ga Im0 Im1) (zI r.1) := by
  unfold fX_deedPut at h
  refine zMi_q (own := RX11) rfl (by decide +kernel) (Nat.le_of_ble_eq_true rfl) (lv := [(0, .ref (g.2.2 0)), (1, .int (zI a1)), (2, .int (zI a2))]) rfl ⟨rfl, rfl⟩ ?_
  intro p e s m args below meth c A Q hQ cx
  refine z_aload_n cx d_X11_deedPut_0 1 rfl rfl 0 rfl ?_
  refine z_iload_n cx d_X11_deedPut_1 2 rfl rfl 1 rfl ?_
  refine z_iload_n cx d_X11_deedPut_2 3 rfl rfl 2 rfl ?_
  refine y_callV_i (As := [.int (zI a1), .int (zI a2)]) (rest := []) (W := fun u_1 => wX g X N T Rd Fr Ac u_1.2 PS Ly Pa OT Ea Ga Im0 Im1) (rf := fun u_1 => zI u_1.1) (rm := zrX_whyNotPut) cx (fun _ hq => tX_whyNotPut hq) d_X11_deedPut_3 6 rfl kk_X11_whyNotPut q_776 q_778 q_12 rfl e_X rfl ⟨rfl, rfl⟩ ⟨Nat.le_of_ble_eq_true rfl, Nat.le_of_ble_eq_true rfl⟩ rfl rfl (Nat.le_of_ble_eq_true rfl) ⟨Nat.zero_le _, Nat.zero_le _⟩ h (fun u_1 h => ?_)
  refine y_if_eq cx d_X11_deedPut_6 9 rfl 11 (by decide) rfl h (fun h => ?_) (fun h => ?_)
  · refine z_aload_n cx d_X11_deedPut_11 12 rfl rfl 0 rfl ?_
    refine z_get cx d_X11_deedPut_12 15 rfl e_X rfl zX11 0 (by decide) q_537 rfl rfl ?_
    refine z_get cx d_X11_deedPut_15 18 rfl e_N rfl zX5 3 (by decide) q_168 rfl rfl ?_
    refine z_iload_n cx d_X11_deedPut_18 19 rfl rfl 1 rfl ?_
    refine z_iload_n cx d_X11_deedPut_19 20 rfl rfl 2 rfl ?_
    refine y_iast cx d_X11_deedPut_20 21 rfl e_N_home (by decide) h (fun _ h9 => s_N_home h9) (fun N_2 h => ?_)
    refine y_iconst cx d_X11_deedPut_21 22 rfl ?_
    subst hQ
    obtain rfl := Option.some.inj h
    exact z_zret cx d_X11_deedPut_22 (zb01 (by decide)) rfl rfl
  · refine y_iconst cx d_X11_deedPut_9 10 rfl ?_
    subst hQ
    obtain rfl := Option.some.inj h
    exact z_zret cx d_X11_deedPut_10 (zb01 (by decide)) rfl rfl
def zrX_deedBreakOrMend : Room := { frames := 1, cells := 0, slots := 0, locals := 21 }
set_option maxHeartbeats 4000000 in
theorem tX_deedBreakOrMend {l : Launch} {g : ZG} {X : ZB} {N : ZB} {T : ZB} {Rd : ZB} {Fr : ZB} {Ac : ZA} {Ch : ZB} {PS : ZB} {Ly : ZB} {Pa : ZQ} {OT : ZB} {Ea : ZB} {Ga : ZB} {Im0 : ZO} {Im1 : ZO} {a1 : Int} {r : Int × ZB} (h : fX_deedBreakOrMend N a1 = some r) : zMi l yX11_deedBreakOrMend cX11_deedBreakOrMend 2 (some .boolean) zrX_deedBreakOrMend g [.ref (g.2.2 0), .int (zI a1)] (wX g X N T Rd Fr Ac Ch PS Ly Pa OT Ea Ga Im0 Im1) (wX g X r.2 T Rd Fr Ac Ch PS Ly Pa OT Ea Ga Im0 Im1) (zI r.1) := by
  unfold fX_deedBreakOrMend at h
  refine zMi_q (own := RX11) rfl (by decide +kernel) (Nat.le_of_ble_eq_true rfl) (lv := [(0, .ref (g.2.2 0)), (1, .int (zI a1))]) rfl ⟨rfl, rfl⟩ ?_
  intro p e s m args below meth c A Q hQ cx
  refine z_aload_n cx d_X11_deedBreakOrMend_0 1 rfl rfl 0 rfl ?_
  refine z_get cx d_X11_deedBreakOrMend_1 4 rfl e_X rfl zX11 0 (by decide) q_537 rfl rfl ?_
  refine z_iload_n cx d_X11_deedBreakOrMend_4 5 rfl rfl 1 rfl ?_
  refine y_callV_i (As := [.int (zI a1)]) (rest := []) (W := fun u_1 => wX g X N T Rd Fr Ac Ch PS Ly Pa OT Ea Ga Im0 Im1) (rf := fun u_1 => zI u_1) (rm := zr0) cx (fun _ hq => tN_isSound hq) d_X11_deedBreakOrMend_5 8 rfl kk_X5_isSound q_780 q_781 q_782 rfl e_N rfl ⟨rfl, rfl⟩ ⟨Nat.le_of_ble_eq_true rfl, Nat.le_of_ble_eq_true rfl⟩ rfl rfl (Nat.le_of_ble_eq_true rfl) ⟨Nat.zero_le _, Nat.zero_le _⟩ h (fun u_1 h => ?_)
  refine kf1_f (P := fun (N_2 : ZB) => V p l e zrX_deedBreakOrMend s m args below meth c A s.heap g 2 Q (wX g X N_2 T Rd Fr Ac Ch PS Ly Pa OT Ea Ga Im0 Im1) 0 0 [] 30 []) h (fun N_2 h => ?_) (fun k_3 hk_3 h => ?_)
  · refine y_iconst cx d_X11_deedBreakOrMend_30 31 rfl ?_
    subst hQ
    obtain rfl := Option.some.inj h
    exact z_zret cx d_X11_deedBreakOrMend_31 (zb01 (by decide)) rfl rfl
  refine y_if_eq cx d_X11_deedBreakOrMend_8 11 rfl 22 (by decide) rfl h (fun h => ?_) (fun h => ?_)
  · refine z_aload_n cx d_X11_deedBreakOrMend_22 23 rfl rfl 0 rfl ?_
    refine z_get cx d_X11_deedBreakOrMend_23 26 rfl e_X rfl zX11 0 (by decide) q_537 rfl rfl ?_
    refine z_iload_n cx d_X11_deedBreakOrMend_26 27 rfl rfl 1 rfl ?_
    refine y_callV_v (As := [.int (zI a1)]) (rest := []) (W := fun u_4 => wX g X u_4 T Rd Fr Ac Ch PS Ly Pa OT Ea Ga Im0 Im1) (rm := zr0) cx (fun _ hq => tN_mendLine hq) d_X11_deedBreakOrMend_27 30 rfl kk_X5_mendLine q_885 q_886 q_887 rfl e_N rfl ⟨rfl, rfl⟩ ⟨Nat.le_of_ble_eq_true rfl, Nat.le_of_ble_eq_true rfl⟩ rfl rfl (Nat.le_of_ble_eq_true rfl) ⟨Nat.zero_le _, Nat.zero_le _⟩ h (fun u_4 h => ?_)
    refine z_sub [] rfl ?_
    exact hk_3 _ h
  · refine z_aload_n cx d_X11_deedBreakOrMend_11 12 rfl rfl 0 rfl ?_
    refine z_get cx d_X11_deedBreakOrMend_12 15 rfl e_X rfl zX11 0 (by decide) q_537 rfl rfl ?_
    refine z_iload_n cx d_X11_deedBreakOrMend_15 16 rfl rfl 1 rfl ?_
    refine y_callV_v (As := [.int (zI a1)]) (rest := []) (W := fun u_5 => wX g X u_5 T Rd Fr Ac Ch PS Ly Pa OT Ea Ga Im0 Im1) (rm := zr0) cx (fun _ hq => tN_breakLine hq) d_X11_deedBreakOrMend_16 19 rfl kk_X5_breakLine q_877 q_878 q_879 rfl e_N rfl ⟨rfl, rfl⟩ ⟨Nat.le_of_ble_eq_true rfl, Nat.le_of_ble_eq_true rfl⟩ rfl rfl (Nat.le_of_ble_eq_true rfl) ⟨Nat.zero_le _, Nat.zero_le _⟩ h (fun u_5 h => ?_)
    refine z_goto cx d_X11_deedBreakOrMend_19 30 (by decide) ?_
    refine z_sub [] rfl ?_
    exact hk_3 _ h
set_option maxHeartbeats 4000000 in
theorem tX_deedLift {l : Launch} {g : ZG} {X : ZB} {N : ZB} {T : ZB} {Rd : ZB} {Fr : ZB} {Ac : ZA} {Ch : ZB} {PS : ZB} {Ly : ZB} {Pa : ZQ} {OT : ZB} {Ea : ZB} {Ga : ZB} {Im0 : ZO} {Im1 : ZO} {a1 : Int} {r : Int × ZB} (h : fX_deedLift N a1 = some r) : zMi l yX11_deedLift cX11_deedLift 2 (some .boolean) zr0 g [.ref (g.2.2 0), .int (zI a1)] (wX g X N T Rd Fr Ac Ch PS Ly Pa OT Ea Ga Im0 Im1) (wX g X r.2 T Rd Fr Ac Ch PS Ly Pa OT Ea Ga Im0 Im1) (zI r.1) := by
  unfold fX_deedLift at h
  refine zMi_q (own := RX11) rfl (by decide +kernel) (Nat.le_of_ble_eq_true rfl) (lv := [(0, .ref (g.2.2 0)), (1, .int (zI a1))]) rfl ⟨rfl, rfl⟩ ?_
  intro p e s m args below meth c A Q hQ cx
  refine z_aload_n cx d_X11_deedLift_0 1 rfl rfl 0 rfl ?_
  refine z_get cx d_X11_deedLift_1 4 rfl e_X rfl zX11 0 (by decide) q_537 rfl rfl ?_
  refine z_get cx d_X11_deedLift_4 7 rfl e_N rfl zX5 3 (by decide) q_168 rfl rfl ?_
  refine z_iload_n cx d_X11_deedLift_7 8 rfl rfl 1 rfl ?_
  refine y_ialdx cx d_X11_deedLift_8 9 rfl e_N_home (by decide) h (fun x_1 h => ?_)
  refine y_iconst cx d_X11_deedLift_9 10 rfl ?_
  refine y_icmp_ne cx d_X11_deedLift_10 13 rfl 15 (by decide) rfl (nm_eq (x := (-1)) (by decide) (by decide)) h (fun h => ?_) (fun h => ?_)
  · refine z_aload_n cx d_X11_deedLift_15 16 rfl rfl 0 rfl ?_
    refine z_get cx d_X11_deedLift_16 19 rfl e_X rfl zX11 0 (by decide) q_537 rfl rfl ?_
    refine z_get cx d_X11_deedLift_19 22 rfl e_N rfl zX5 3 (by decide) q_168 rfl rfl ?_
    refine z_iload_n cx d_X11_deedLift_22 23 rfl rfl 1 rfl ?_
    refine y_iconst cx d_X11_deedLift_23 24 rfl ?_
    refine y_iast cx d_X11_deedLift_24 25 rfl e_N_home (by decide) h (fun _ h9 => s_N_home h9) (fun N_2 h => ?_)
    refine y_iconst cx d_X11_deedLift_25 26 rfl ?_
    subst hQ
    obtain rfl := Option.some.inj h
    exact z_zret cx d_X11_deedLift_26 (zb01 (by decide)) rfl rfl
  · refine y_iconst cx d_X11_deedLift_13 14 rfl ?_
    subst hQ
    obtain rfl := Option.some.inj h
    exact z_zret cx d_X11_deedLift_14 (zb01 (by decide)) rfl rfl
def zrX_deedPlace : Room := { frames := 4, cells := 0, slots := 0, locals := 104 }
set_option maxHeartbeats 4000000 in
theorem tX_deedPlace {l : Launch} {g : ZG} {X : ZB} {N : ZB} {T : ZB} {Rd : ZB} {Fr : ZB} {Ac : ZA} {Ch : ZB} {PS : ZB} {Ly : ZB} {Pa : ZQ} {OT : ZB} {Ea : ZB} {Ga : ZB} {Im0 : ZO} {Im1 : ZO} {a1 : Int} {r : Int × ZB × ZB} (h : fX_deedPlace N Ch a1 = some r) : zMi l yX11_deedPlace cX11_deedPlace 2 (some .boolean) zrX_deedPlace g [.ref (g.2.2 0), .int (zI a1)] (wX g X N T Rd Fr Ac Ch PS Ly Pa OT Ea Ga Im0 Im1) (wX g X r.2.1 T Rd Fr Ac r.2.2 PS Ly Pa OT Ea Ga Im0 Im1) (zI r.1) := by
  unfold fX_deedPlace at h
  refine zMi_q (own := RX11) rfl (by decide +kernel) (Nat.le_of_ble_eq_true rfl) (lv := [(0, .ref (g.2.2 0)), (1, .int (zI a1))]) rfl ⟨rfl, rfl⟩ ?_
  intro p e s m args below meth c A Q hQ cx
  refine z_aload_n cx d_X11_deedPlace_0 1 rfl rfl 0 rfl ?_
  refine z_iload_n cx d_X11_deedPlace_1 2 rfl rfl 1 rfl ?_
  refine y_callV_i (As := [.int (zI a1)]) (rest := []) (W := fun u_1 => wX g X N T Rd Fr Ac Ch PS Ly Pa OT Ea Ga Im0 Im1) (rf := fun u_1 => zI u_1) (rm := zrX_canBePlaced) cx (fun _ hq => tX_canBePlaced hq) d_X11_deedPlace_2 5 rfl kk_X11_canBePlaced q_800 q_802 q_14 rfl e_X rfl ⟨rfl, rfl⟩ ⟨Nat.le_of_ble_eq_true rfl, Nat.le_of_ble_eq_true rfl⟩ rfl rfl (Nat.le_of_ble_eq_true rfl) ⟨Nat.zero_le _, Nat.zero_le _⟩ h (fun u_1 h => ?_)
  refine kf1_f (P := fun (Ch_2 : ZB) => V p l e zrX_deedPlace s m args below meth c A s.heap g 2 Q (wX g X N T Rd Fr Ac Ch_2 PS Ly Pa OT Ea Ga Im0 Im1) 0 0 [] 19 []) h (fun Ch_2 h => ?_) (fun k_3 hk_3 h => ?_)
  · refine y_iconst cx d_X11_deedPlace_19 20 rfl ?_
    subst hQ
    obtain rfl := Option.some.inj h
    exact z_zret cx d_X11_deedPlace_20 (zb01 (by decide)) rfl rfl
  refine y_if_eq cx d_X11_deedPlace_5 8 rfl 19 (by decide) rfl h (fun h => ?_) (fun h => ?_)
  · refine z_sub [] rfl ?_
    exact hk_3 _ h
  · refine z_aload_n cx d_X11_deedPlace_8 9 rfl rfl 0 rfl ?_
    refine z_get cx d_X11_deedPlace_9 12 rfl e_X rfl zX11 4 (by decide) q_541 rfl rfl ?_
    refine z_iload_n cx d_X11_deedPlace_12 13 rfl rfl 1 rfl ?_
    refine y_callV_i (As := [.int (zI a1)]) (rest := []) (W := fun u_4 => wX g X N T Rd Fr Ac u_4.2 PS Ly Pa OT Ea Ga Im0 Im1) (rf := fun u_4 => zI u_4.1) (rm := zrCh_find) cx (fun _ hq => tCh_find hq) d_X11_deedPlace_13 16 rfl kk_X1_find q_804 q_805 q_806 rfl e_Ch rfl ⟨rfl, rfl⟩ ⟨Nat.le_of_ble_eq_true rfl, Nat.le_of_ble_eq_true rfl⟩ rfl rfl (Nat.le_of_ble_eq_true rfl) ⟨Nat.zero_le _, Nat.zero_le _⟩ h (fun u_4 h => ?_)
    refine y_if_ne cx d_X11_deedPlace_16 19 rfl 21 (by decide) rfl h (fun h => ?_) (fun h => ?_)
    · refine z_aload_n cx d_X11_deedPlace_21 22 rfl rfl 0 rfl ?_
      refine z_get cx d_X11_deedPlace_22 25 rfl e_X rfl zX11 4 (by decide) q_541 rfl rfl ?_
      refine y_callV_v (As := []) (rest := []) (W := fun u_5 => wX g X u_5 T Rd Fr Ac u_4.2 PS Ly Pa OT Ea Ga Im0 Im1) (rm := zr0) cx (fun _ hq => tCh_carryOut hq) d_X11_deedPlace_25 28 rfl kk_X1_carryOut q_827 q_828 q_829 rfl e_Ch rfl ⟨rfl, rfl⟩ ⟨Nat.le_of_ble_eq_true rfl, Nat.le_of_ble_eq_true rfl⟩ rfl rfl (Nat.le_of_ble_eq_true rfl) ⟨Nat.zero_le _, Nat.zero_le _⟩ h (fun u_5 h => ?_)
      refine y_iconst cx d_X11_deedPlace_28 29 rfl ?_
      subst hQ
      obtain rfl := Option.some.inj h
      exact z_zret cx d_X11_deedPlace_29 (zb01 (by decide)) rfl rfl
    · refine z_sub [] rfl ?_
      exact hk_3 _ h
def zrX_drawDeed : Room := { frames := 5, cells := 0, slots := 0, locals := 125 }
set_option maxHeartbeats 4000000 in
theorem tX_drawDeed {l : Launch} {g : ZG} {X : ZB} {N : ZB} {T : ZB} {Rd : ZB} {Fr : ZB} {Ac : ZA} {Ch : ZB} {PS : ZB} {Ly : ZB} {Pa : ZQ} {OT : ZB} {Ea : ZB} {Ga : ZB} {Im0 : ZO} {Im1 : ZO}  {r : Int × ZB × ZB × ZB} (h : fX_drawDeed X N Ch = some r) : zMi l yX11_drawDeed cX11_drawDeed 3 (some .boolean) zrX_drawDeed g [.ref (g.2.2 0)] (wX g X N T Rd Fr Ac Ch PS Ly Pa OT Ea Ga Im0 Im1) (wX g r.2.1 r.2.2.1 T Rd Fr Ac r.2.2.2 PS Ly Pa OT Ea Ga Im0 Im1) (zI r.1) := by
  unfold fX_drawDeed at h
  refine zMi_q (own := RX11) rfl (by decide +kernel) (Nat.le_of_ble_eq_true rfl) (lv := [(0, .ref (g.2.2 0))]) rfl ⟨rfl, rfl⟩ ?_
  intro p e s m args below meth c A Q hQ cx
  refine z_aload_n cx d_X11_drawDeed_0 1 rfl rfl 0 rfl ?_
  refine y_bipush cx d_X11_drawDeed_1 3 rfl (by decide) ?_
  refine y_callV_i (As := [.int (zI 6)]) (rest := []) (W := fun u_1 => wX g u_1.2 N T Rd Fr Ac Ch PS Ly Pa OT Ea Ga Im0 Im1) (rf := fun u_1 => zI u_1.1) (rm := zr0) cx (fun _ hq => tX_draw hq) d_X11_drawDeed_3 6 rfl kk_X11_draw q_1224 q_1226 q_39 rfl e_X rfl ⟨rfl, rfl⟩ ⟨Nat.le_of_ble_eq_true rfl, Nat.le_of_ble_eq_true rfl⟩ rfl rfl (Nat.le_of_ble_eq_true rfl) ⟨Nat.zero_le _, Nat.zero_le _⟩ h (fun u_1 h => ?_)
  refine y_istore_n cx d_X11_drawDeed_6 7 rfl rfl (by decide) (lv' := [(1, .int (zI u_1.1)), (0, .ref (g.2.2 0))]) rfl ?_
  refine z_aload_n cx d_X11_drawDeed_7 8 rfl rfl 1 rfl ?_
  refine z_aload_n cx d_X11_drawDeed_8 9 rfl rfl 1 rfl ?_
  refine z_get cx d_X11_drawDeed_9 12 rfl e_X rfl zX11 0 (by decide) q_537 rfl rfl ?_
  refine z_get cx d_X11_drawDeed_12 15 rfl e_N rfl zX5 5 (by decide) q_185 rfl rfl ?_
  refine y_callV_i (As := [.int (zI (N.1 5))]) (rest := []) (W := fun u_2 => wX g u_2.2 N T Rd Fr Ac Ch PS Ly Pa OT Ea Ga Im0 Im1) (rf := fun u_2 => zI u_2.1) (rm := zr0) cx (fun _ hq => tX_draw hq) d_X11_drawDeed_15 18 rfl kk_X11_draw q_1224 q_1226 q_39 rfl e_X rfl ⟨rfl, rfl⟩ ⟨Nat.le_of_ble_eq_true rfl, Nat.le_of_ble_eq_true rfl⟩ rfl rfl (Nat.le_of_ble_eq_true rfl) ⟨Nat.zero_le _, Nat.zero_le _⟩ h (fun u_2 h => ?_)
  refine y_istore_n cx d_X11_drawDeed_18 19 rfl rfl (by decide) (lv' := [(2, .int (zI u_2.1)), (1, .int (zI u_1.1)), (0, .ref (g.2.2 0))]) rfl ?_
  refine z_iload_n cx d_X11_drawDeed_19 20 rfl rfl 1 rfl ?_
  refine ite_c h (fun c_3 h => ?_) (fun c_3 h => ?_)
  · refine y_swIn cx d_X11_drawDeed_20 0 (Eq.trans rfl c_3) 56 (by decide) (by decide) rfl (by decide) ?_
    refine z_aload_n cx d_X11_drawDeed_56 57 rfl rfl 2 rfl ?_
    refine z_iload_n cx d_X11_drawDeed_57 58 rfl rfl 0 rfl ?_
    refine y_callV_i (As := [.int (zI u_2.1)]) (rest := []) (W := fun u_4 => wX g u_2.2 u_4.2.1 T Rd Fr Ac u_4.2.2 PS Ly Pa OT Ea Ga Im0 Im1) (rf := fun u_4 => zI u_4.1) (rm := zrX_deedPlace) cx (fun _ hq => tX_deedPlace hq) d_X11_drawDeed_58 61 rfl kk_X11_deedPlace q_1229 q_1231 q_40 rfl e_X rfl ⟨rfl, rfl⟩ ⟨Nat.le_of_ble_eq_true rfl, Nat.le_of_ble_eq_true rfl⟩ rfl rfl (Nat.le_of_ble_eq_true rfl) ⟨Nat.zero_le _, Nat.zero_le _⟩ h (fun u_4 h => ?_)
    obtain ⟨hz, h⟩ := zo_i h
    subst hQ
    obtain rfl := Option.some.inj h
    exact z_zret cx d_X11_drawDeed_61 (zb01 hz) rfl rfl
  · refine ite_c h (fun c_5 h => ?_) (fun c_5 h => ?_)
    · refine y_swIn cx d_X11_drawDeed_20 1 (Eq.trans rfl c_5) 56 (by decide) (by decide) rfl (by decide) ?_
      refine z_aload_n cx d_X11_drawDeed_56 57 rfl rfl 2 rfl ?_
      refine z_iload_n cx d_X11_drawDeed_57 58 rfl rfl 0 rfl ?_
      refine y_callV_i (As := [.int (zI u_2.1)]) (rest := []) (W := fun u_6 => wX g u_2.2 u_6.2.1 T Rd Fr Ac u_6.2.2 PS Ly Pa OT Ea Ga Im0 Im1) (rf := fun u_6 => zI u_6.1) (rm := zrX_deedPlace) cx (fun _ hq => tX_deedPlace hq) d_X11_drawDeed_58 61 rfl kk_X11_deedPlace q_1229 q_1231 q_40 rfl e_X rfl ⟨rfl, rfl⟩ ⟨Nat.le_of_ble_eq_true rfl, Nat.le_of_ble_eq_true rfl⟩ rfl rfl (Nat.le_of_ble_eq_true rfl) ⟨Nat.zero_le _, Nat.zero_le _⟩ h (fun u_6 h => ?_)
      obtain ⟨hz, h⟩ := zo_i h
      subst hQ
      obtain rfl := Option.some.inj h
      exact z_zret cx d_X11_drawDeed_61 (zb01 hz) rfl rfl
    · refine ite_c h (fun c_7 h => ?_) (fun c_7 h => ?_)
      · refine y_swIn cx d_X11_drawDeed_20 2 (Eq.trans rfl c_7) 62 (by decide) (by decide) rfl (by decide) ?_
        refine z_aload_n cx d_X11_drawDeed_62 63 rfl rfl 2 rfl ?_
        refine z_iload_n cx d_X11_drawDeed_63 64 rfl rfl 0 rfl ?_
        refine y_callV_i (As := [.int (zI u_2.1)]) (rest := []) (W := fun u_8 => wX g u_2.2 u_8.2 T Rd Fr Ac Ch PS Ly Pa OT Ea Ga Im0 Im1) (rf := fun u_8 => zI u_8.1) (rm := zr0) cx (fun _ hq => tX_deedLift hq) d_X11_drawDeed_64 67 rfl kk_X11_deedLift q_1233 q_1235 q_41 rfl e_X rfl ⟨rfl, rfl⟩ ⟨Nat.le_of_ble_eq_true rfl, Nat.le_of_ble_eq_true rfl⟩ rfl rfl (Nat.le_of_ble_eq_true rfl) ⟨Nat.zero_le _, Nat.zero_le _⟩ h (fun u_8 h => ?_)
        obtain ⟨hz, h⟩ := zo_i h
        subst hQ
        obtain rfl := Option.some.inj h
        exact z_zret cx d_X11_drawDeed_67 (zb01 hz) rfl rfl
      · refine ite_c h (fun c_9 h => ?_) (fun c_9 h => ?_)
        · refine y_swIn cx d_X11_drawDeed_20 3 (Eq.trans rfl c_9) 68 (by decide) (by decide) rfl (by decide) ?_
          refine z_aload_n cx d_X11_drawDeed_68 69 rfl rfl 2 rfl ?_
          refine z_iload_n cx d_X11_drawDeed_69 70 rfl rfl 0 rfl ?_
          refine y_callV_i (As := [.int (zI u_2.1)]) (rest := []) (W := fun u_10 => wX g u_2.2 u_10.2 T Rd Fr Ac Ch PS Ly Pa OT Ea Ga Im0 Im1) (rf := fun u_10 => zI u_10.1) (rm := zrX_deedBreakOrMend) cx (fun _ hq => tX_deedBreakOrMend hq) d_X11_drawDeed_70 73 rfl kk_X11_deedBreakOrMend q_1237 q_1239 q_42 rfl e_X rfl ⟨rfl, rfl⟩ ⟨Nat.le_of_ble_eq_true rfl, Nat.le_of_ble_eq_true rfl⟩ rfl rfl (Nat.le_of_ble_eq_true rfl) ⟨Nat.zero_le _, Nat.zero_le _⟩ h (fun u_10 h => ?_)
          obtain ⟨hz, h⟩ := zo_i h
          subst hQ
          obtain rfl := Option.some.inj h
          exact z_zret cx d_X11_drawDeed_73 (zb01 hz) rfl rfl
        · refine ite_c h (fun c_11 h => ?_) (fun c_11 h => ?_)
          · refine y_swIn cx d_X11_drawDeed_20 4 (Eq.trans rfl c_11) 74 (by decide) (by decide) rfl (by decide) ?_
            refine z_aload_n cx d_X11_drawDeed_74 75 rfl rfl 2 rfl ?_
            refine z_iload_n cx d_X11_drawDeed_75 76 rfl rfl 0 rfl ?_
            refine z_aload_n cx d_X11_drawDeed_76 77 rfl rfl 2 rfl ?_
            refine z_aload_n cx d_X11_drawDeed_77 78 rfl rfl 2 rfl ?_
            refine z_get cx d_X11_drawDeed_78 81 rfl e_X rfl zX11 0 (by decide) q_537 rfl rfl ?_
            refine z_get cx d_X11_drawDeed_81 84 rfl e_N rfl zX5 6 (by decide) q_191 rfl rfl ?_
            refine y_callV_i (As := [.int (zI (N.1 6))]) (rest := [.int (zI u_2.1), .ref (g.2.2 0)]) (W := fun u_12 => wX g u_12.2 N T Rd Fr Ac Ch PS Ly Pa OT Ea Ga Im0 Im1) (rf := fun u_12 => zI u_12.1) (rm := zr0) cx (fun _ hq => tX_draw hq) d_X11_drawDeed_84 87 rfl kk_X11_draw q_1224 q_1226 q_39 rfl e_X rfl ⟨rfl, rfl⟩ ⟨Nat.le_of_ble_eq_true rfl, Nat.le_of_ble_eq_true rfl⟩ rfl rfl (Nat.le_of_ble_eq_true rfl) ⟨Nat.zero_le _, Nat.zero_le _⟩ h (fun u_12 h => ?_)
            refine y_callV_i (As := [.int (zI u_2.1), .int (zI u_12.1)]) (rest := []) (W := fun u_13 => wX g u_12.2 u_13.2.1 T Rd Fr Ac u_13.2.2 PS Ly Pa OT Ea Ga Im0 Im1) (rf := fun u_13 => zI u_13.1) (rm := zrX_deedPut) cx (fun _ hq => tX_deedPut hq) d_X11_drawDeed_87 90 rfl kk_X11_deedPut q_1241 q_1243 q_43 rfl e_X rfl ⟨rfl, rfl⟩ ⟨Nat.le_of_ble_eq_true rfl, Nat.le_of_ble_eq_true rfl⟩ rfl rfl (Nat.le_of_ble_eq_true rfl) ⟨Nat.zero_le _, Nat.zero_le _⟩ h (fun u_13 h => ?_)
            obtain ⟨hz, h⟩ := zo_i h
            subst hQ
            obtain rfl := Option.some.inj h
            exact z_zret cx d_X11_drawDeed_90 (zb01 hz) rfl rfl
          · refine y_swOut cx d_X11_drawDeed_20 (by omega) 91 (by decide) ?_
            refine z_aload_n cx d_X11_drawDeed_91 92 rfl rfl 2 rfl ?_
            refine z_iload_n cx d_X11_drawDeed_92 93 rfl rfl 0 rfl ?_
            refine z_aload_n cx d_X11_drawDeed_93 94 rfl rfl 2 rfl ?_
            refine z_aload_n cx d_X11_drawDeed_94 95 rfl rfl 2 rfl ?_
            refine z_get cx d_X11_drawDeed_95 98 rfl e_X rfl zX11 0 (by decide) q_537 rfl rfl ?_
            refine z_get cx d_X11_drawDeed_98 101 rfl e_N rfl zX5 6 (by decide) q_191 rfl rfl ?_
            refine y_callV_i (As := [.int (zI (N.1 6))]) (rest := [.int (zI u_2.1), .ref (g.2.2 0)]) (W := fun u_14 => wX g u_14.2 N T Rd Fr Ac Ch PS Ly Pa OT Ea Ga Im0 Im1) (rf := fun u_14 => zI u_14.1) (rm := zr0) cx (fun _ hq => tX_draw hq) d_X11_drawDeed_101 104 rfl kk_X11_draw q_1224 q_1226 q_39 rfl e_X rfl ⟨rfl, rfl⟩ ⟨Nat.le_of_ble_eq_true rfl, Nat.le_of_ble_eq_true rfl⟩ rfl rfl (Nat.le_of_ble_eq_true rfl) ⟨Nat.zero_le _, Nat.zero_le _⟩ h (fun u_14 h => ?_)
            refine y_callV_i (As := [.int (zI u_2.1), .int (zI u_14.1)]) (rest := []) (W := fun u_15 => wX g u_14.2 u_15.2.1 T Rd Fr Ac u_15.2.2 PS Ly Pa OT Ea Ga Im0 Im1) (rf := fun u_15 => zI u_15.1) (rm := zrX_deedTrade) cx (fun _ hq => tX_deedTrade hq) d_X11_drawDeed_104 107 rfl kk_X11_deedTrade q_1245 q_1247 q_44 rfl e_X rfl ⟨rfl, rfl⟩ ⟨Nat.le_of_ble_eq_true rfl, Nat.le_of_ble_eq_true rfl⟩ rfl rfl (Nat.le_of_ble_eq_true rfl) ⟨Nat.zero_le _, Nat.zero_le _⟩ h (fun u_15 h => ?_)
            obtain ⟨hz, h⟩ := zo_i h
            subst hQ
            obtain rfl := Option.some.inj h
            exact z_zret cx d_X11_drawDeed_107 (zb01 hz) rfl rfl
def zrX_drawn : Room := { frames := 6, cells := 0, slots := 0, locals := 147 }
set_option maxHeartbeats 4000000 in
theorem tX_drawn {l : Launch} {g : ZG} {X : ZB} {N : ZB} {T : ZB} {Rd : ZB} {Fr : ZB} {Ac : ZA} {Ch : ZB} {PS : ZB} {Ly : ZB} {Pa : ZQ} {OT : ZB} {Ea : ZB} {Ga : ZB} {Im0 : ZO} {Im1 : ZO} {a1 : Int} {a2 : Int} {r : Int × ZB × ZB × ZA × ZB} (h : fX_drawn X N Ac Ch a1 a2 = some r) : zMi l yX11_drawn cX11_drawn 5 (some .int) zrX_drawn g [.ref (g.2.2 0), .int (zI a1), .int (zI a2)] (wX g X N T Rd Fr Ac Ch PS Ly Pa OT Ea Ga Im0 Im1) (wX g r.2.1 r.2.2.1 T Rd Fr r.2.2.2.1 r.2.2.2.2 PS Ly Pa OT Ea Ga Im0 Im1) (zI r.1) := by
  unfold fX_drawn at h
  refine zMi_q (own := RX11) rfl (by decide +kernel) (Nat.le_of_ble_eq_true rfl) (lv := [(0, .ref (g.2.2 0)), (1, .int (zI a1)), (2, .int (zI a2))]) rfl ⟨rfl, rfl⟩ ?_
  intro p e s m args below meth c A Q hQ cx
  refine z_iload_n cx d_X11_drawn_0 1 rfl rfl 1 rfl ?_
  refine y_iconst cx d_X11_drawn_1 2 rfl ?_
  refine kf0_f (P := V p l e zrX_drawn s m args below meth c A s.heap g 5 Q (wX g X N T Rd Fr Ac Ch PS Ly Pa OT Ea Ga Im0 Im1) 0 0 [] 11 []) h (fun h => ?_) (fun k_1 hk_1 h => ?_)
  · refine y_iconst cx d_X11_drawn_11 12 rfl ?_
    subst hQ
    obtain rfl := Option.some.inj h
    exact z_iret cx d_X11_drawn_12 rfl rfl
  refine y_icmp_lt cx d_X11_drawn_2 5 rfl 11 (by decide) rfl (nm_eq (x := 1) (by decide) (by decide)) h (fun h => ?_) (fun h => ?_)
  · refine z_sub [] rfl ?_
    exact hk_1  h
  · refine z_iload_n cx d_X11_drawn_5 6 rfl rfl 1 rfl ?_
    refine y_bipush cx d_X11_drawn_6 8 rfl (by decide) ?_
    refine y_icmp_le cx d_X11_drawn_8 11 rfl 13 (by decide) rfl (nm_eq (x := 60) (by decide) (by decide)) h (fun h => ?_) (fun h => ?_)
    · refine z_aload_n cx d_X11_drawn_13 14 rfl rfl 0 rfl ?_
      refine z_get cx d_X11_drawn_14 17 rfl e_X rfl zX11 0 (by decide) q_537 rfl rfl ?_
      refine z_get cx d_X11_drawn_17 20 rfl e_N rfl zX5 5 (by decide) q_185 rfl rfl ?_
      refine y_if_ne cx d_X11_drawn_20 23 rfl 25 (by decide) rfl h (fun h => ?_) (fun h => ?_)
      · refine z_aload_n cx d_X11_drawn_25 26 rfl rfl 0 rfl ?_
        refine z_iload_n cx d_X11_drawn_26 27 rfl rfl 2 rfl ?_
        refine y_put cx d_X11_drawn_27 30 rfl e_X rfl zX11 tyX11_ok nmX11 12 (by decide) q_549 rfl rfl rfl rfl (Nat.le_of_ble_eq_true rfl) h (fun _ h9 => s_X_12 h9) (fun X_2 h => ?_)
        refine z_aload_n cx d_X11_drawn_30 31 rfl rfl 0 rfl ?_
        refine z_get cx d_X11_drawn_31 34 rfl e_X rfl zX11 3 (by decide) q_540 rfl rfl ?_
        refine y_callV_v (As := []) (rest := []) (W := fun u_3 => wX g X_2 N T Rd Fr u_3 Ch PS Ly Pa OT Ea Ga Im0 Im1) (rm := zrAc_before) cx (fun _ hq => tAc_before hq) d_X11_drawn_34 37 rfl kk_X0_before q_711 q_712 q_713 rfl e_Ac rfl ⟨rfl, rfl⟩ ⟨Nat.le_of_ble_eq_true rfl, Nat.le_of_ble_eq_true rfl⟩ rfl rfl (Nat.le_of_ble_eq_true rfl) ⟨Nat.zero_le _, Nat.zero_le _⟩ h (fun u_3 h => ?_)
        refine y_iconst cx d_X11_drawn_37 38 rfl ?_
        refine y_istore_n cx d_X11_drawn_38 39 rfl rfl (by decide) (lv' := [(3, .int (zI 0)), (0, .ref (g.2.2 0)), (1, .int (zI a1)), (2, .int (zI a2))]) rfl ?_
        refine y_iconst cx d_X11_drawn_39 40 rfl ?_
        refine y_istore cx d_X11_drawn_40 42 rfl (by decide) (lv' := [(4, .int (zI 0)), (3, .int (zI 0)), (0, .ref (g.2.2 0)), (1, .int (zI a1)), (2, .int (zI a2))]) rfl ?_
        refine z_sub [2, 3, 1, 0] rfl ?_
        refine lop5_f (P := fun (v3_4 : Int) (v4_5 : Int) (X_6 : ZB) (N_7 : ZB) (Ch_8 : ZB) => V p l e zrX_drawn s m args below meth c A s.heap g 5 Q (wX g X_6 N_7 T Rd Fr u_3 Ch_8 PS Ly Pa OT Ea Ga Im0 Im1) 0 0 [(0, .ref (g.2.2 0)), (1, .int (zI a1)), (3, .int (zI v3_4)), (4, .int (zI v4_5))] 42 []) (fun rec_9 hrec_9 v3_4 v4_5 X_6 N_7 Ch_8 h => ?_) _ _ _ _ _ _ h
        refine z_iload cx d_X11_drawn_42 44 rfl 3 rfl ?_
        refine z_iload_n cx d_X11_drawn_44 45 rfl rfl 1 rfl ?_
        refine y_icmp_ge cx d_X11_drawn_45 48 rfl 64 (by decide) rfl rfl h (fun h => ?_) (fun h => ?_)
        · refine z_iload_n cx d_X11_drawn_64 65 rfl rfl 2 rfl ?_
          refine kf1_f (P := fun (Ac_10 : ZA) => V p l e zrX_drawn s m args below meth c A s.heap g 5 Q (wX g X_6 N_7 T Rd Fr Ac_10 Ch_8 PS Ly Pa OT Ea Ga Im0 Im1) 0 0 [(3, .int (zI v3_4))] 75 []) h (fun Ac_10 h => ?_) (fun k_11 hk_11 h => ?_)
          · refine z_iload_n cx d_X11_drawn_75 76 rfl rfl 0 rfl ?_
            subst hQ
            obtain rfl := Option.some.inj h
            exact z_iret cx d_X11_drawn_76 rfl rfl
          refine y_if_le cx d_X11_drawn_65 68 rfl 75 (by decide) rfl h (fun h => ?_) (fun h => ?_)
          · refine z_sub [2] rfl ?_
            exact hk_11 _ h
          · refine z_aload_n cx d_X11_drawn_68 69 rfl rfl 0 rfl ?_
            refine z_get cx d_X11_drawn_69 72 rfl e_X rfl zX11 3 (by decide) q_540 rfl rfl ?_
            refine y_callV_v (As := []) (rest := []) (W := fun u_12 => wX g X_6 N_7 T Rd Fr u_12 Ch_8 PS Ly Pa OT Ea Ga Im0 Im1) (rm := zr0) cx (fun _ hq => tAc_done hq) d_X11_drawn_72 75 rfl kk_X0_done q_716 q_717 q_718 rfl e_Ac rfl ⟨rfl, rfl⟩ ⟨Nat.le_of_ble_eq_true rfl, Nat.le_of_ble_eq_true rfl⟩ rfl rfl (Nat.le_of_ble_eq_true rfl) ⟨Nat.zero_le _, Nat.zero_le _⟩ h (fun u_12 h => ?_)
            refine z_sub [2] rfl ?_
            exact hk_11 _ h
        · refine z_aload_n cx d_X11_drawn_48 49 rfl rfl 0 rfl ?_
          refine y_callV_i (As := []) (rest := []) (W := fun u_13 => wX g u_13.2.1 u_13.2.2.1 T Rd Fr u_3 u_13.2.2.2 PS Ly Pa OT Ea Ga Im0 Im1) (rf := fun u_13 => zI u_13.1) (rm := zrX_drawDeed) cx (fun _ hq => tX_drawDeed hq) d_X11_drawn_49 52 rfl kk_X11_drawDeed q_1220 q_1222 q_38 rfl e_X rfl ⟨rfl, rfl⟩ ⟨Nat.le_of_ble_eq_true rfl, Nat.le_of_ble_eq_true rfl⟩ rfl rfl (Nat.le_of_ble_eq_true rfl) ⟨Nat.zero_le _, Nat.zero_le _⟩ h (fun u_13 h => ?_)
          refine kf1_f (P := fun (v3_14 : Int) => V p l e zrX_drawn s m args below meth c A s.heap g 5 Q (wX g u_13.2.1 u_13.2.2.1 T Rd Fr u_3 u_13.2.2.2 PS Ly Pa OT Ea Ga Im0 Im1) 0 0 [(0, .ref (g.2.2 0)), (1, .int (zI a1)), (3, .int (zI v3_14)), (4, .int (zI v4_5))] 58 []) h (fun v3_14 h => ?_) (fun k_15 hk_15 h => ?_)
          · refine y_iinc cx 3 d_X11_drawn_58 61 rfl rfl (by decide) (lv' := [(4, .int (zI (v4_5 + 1))), (0, .ref (g.2.2 0)), (1, .int (zI a1)), (3, .int (zI v3_14))]) rfl ?_
            refine z_goto cx d_X11_drawn_61 42 (by decide) ?_
            refine z_sub [1, 2, 3, 0] rfl ?_
            exact hrec_9 _ _ _ _ _ h
          refine y_if_eq cx d_X11_drawn_52 55 rfl 58 (by decide) rfl h (fun h => ?_) (fun h => ?_)
          · exact hk_15 _ h
          · refine y_iinc cx 2 d_X11_drawn_55 58 rfl rfl (by decide) (lv' := [(3, .int (zI (v3_4 + 1))), (0, .ref (g.2.2 0)), (1, .int (zI a1)), (4, .int (zI v4_5))]) rfl ?_
            refine z_sub [1, 2, 0, 3] rfl ?_
            exact hk_15 _ h
      · refine y_iconst cx d_X11_drawn_23 24 rfl ?_
        subst hQ
        obtain rfl := Option.some.inj h
        exact z_iret cx d_X11_drawn_24 rfl rfl
    · refine z_sub [] rfl ?_
      exact hk_1  h
