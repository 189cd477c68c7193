-- needs: 13.vread
def zrX_chainAt : Room := { frames := 1, cells := 0, slots := 0, locals := 22 }
set_option maxHeartbeats 4000000 in
theorem tX_chainAt {l : Launch} {g : ZG} {X : ZB} {N : ZB} {T : ZB} {Rd : ZB} {Fr : ZB} {Ac : ZA} {Ch : ZB} {PS : ZB} {Ly : ZB} {Pa : ZQ} {OT : ZB} {Ea : ZB} {Ga : ZB} {Im0 : ZO} {Im1 : ZO} {La : ZB} {a1 : Int} {a2 : Int} {r : Int} (h : fX_chainAt Ch a1 a2 = some r) : zMi l yX11_chainAt cX11_chainAt 3 (some .int) zrX_chainAt g [.ref (g.2.2 0), .int (zI a1), .int (zI a2)] (wX g X N T Rd Fr Ac Ch PS Ly Pa OT Ea Ga Im0 Im1 La) (wX g X N T Rd Fr Ac Ch PS Ly Pa OT Ea Ga Im0 Im1 La) (zI r) := by
  unfold fX_chainAt at h
  refine zMi_q (own := RX11) rfl (by decide +kernel) (Nat.le_of_ble_eq_true rfl) (lv := [(0, .ref (g.2.2 0)), (1, .int (zI a1)), (2, .int (zI a2))]) rfl ⟨rfl, rfl⟩ ?_
  intro p e s m args below meth c A Q hQ cx
  refine z_aload_n cx d_X11_chainAt_0 1 rfl rfl 0 rfl ?_
  refine z_get cx d_X11_chainAt_1 4 rfl e_X rfl zX11 4 (by decide) q_436 rfl rfl ?_
  refine z_iload_n cx d_X11_chainAt_4 5 rfl rfl 1 rfl ?_
  refine z_iload_n cx d_X11_chainAt_5 6 rfl rfl 2 rfl ?_
  refine y_callV_i (As := [.int (zI a1), .int (zI a2)]) (rest := []) (W := fun u_1 => wX g X N T Rd Fr Ac Ch PS Ly Pa OT Ea Ga Im0 Im1 La) (rf := fun u_1 => zI u_1) (rm := zr0) cx (fun _ hq => tCh_toldAt hq) d_X11_chainAt_6 9 rfl kk_X1_toldAt q_906 q_907 q_908 rfl e_Ch rfl ⟨rfl, rfl⟩ ⟨Nat.le_of_ble_eq_true rfl, Nat.le_of_ble_eq_true rfl⟩ rfl rfl (Nat.le_of_ble_eq_true rfl) ⟨Nat.zero_le _, Nat.zero_le _⟩ h (fun u_1 h => ?_)
  subst hQ
  obtain rfl := Option.some.inj h
  exact z_iret cx d_X11_chainAt_9 rfl rfl
def zrX_crowd : Room := { frames := 1, cells := 0, slots := 0, locals := 20 }
set_option maxHeartbeats 4000000 in
theorem tX_crowd {l : Launch} {g : ZG} {X : ZB} {N : ZB} {T : ZB} {Rd : ZB} {Fr : ZB} {Ac : ZA} {Ch : ZB} {PS : ZB} {Ly : ZB} {Pa : ZQ} {OT : ZB} {Ea : ZB} {Ga : ZB} {Im0 : ZO} {Im1 : ZO} {La : ZB}  {r : Int} (h : fX_crowd Ch = some r) : zMi l yX11_crowd cX11_crowd 1 (some .int) zrX_crowd g [.ref (g.2.2 0)] (wX g X N T Rd Fr Ac Ch PS Ly Pa OT Ea Ga Im0 Im1 La) (wX g X N T Rd Fr Ac Ch PS Ly Pa OT Ea Ga Im0 Im1 La) (zI r) := by
  unfold fX_crowd at h
  refine zMi_q (own := RX11) rfl (by decide +kernel) (Nat.le_of_ble_eq_true rfl) (lv := [(0, .ref (g.2.2 0))]) rfl ⟨rfl, rfl⟩ ?_
  intro p e s m args below meth c A Q hQ cx
  refine z_aload_n cx d_X11_crowd_0 1 rfl rfl 0 rfl ?_
  refine z_get cx d_X11_crowd_1 4 rfl e_X rfl zX11 4 (by decide) q_436 rfl rfl ?_
  refine y_callV_i (As := []) (rest := []) (W := fun u_1 => wX g X N T Rd Fr Ac Ch PS Ly Pa OT Ea Ga Im0 Im1 La) (rf := fun u_1 => zI u_1) (rm := zr0) cx (fun _ hq => tCh_toldCrowd hq) d_X11_crowd_4 7 rfl kk_X1_toldCrowd q_914 q_915 q_916 rfl e_Ch rfl ⟨rfl, rfl⟩ ⟨Nat.le_of_ble_eq_true rfl, Nat.le_of_ble_eq_true rfl⟩ rfl rfl (Nat.le_of_ble_eq_true rfl) ⟨Nat.zero_le _, Nat.zero_le _⟩ h (fun u_1 h => ?_)
  subst hQ
  obtain rfl := Option.some.inj h
  exact z_iret cx d_X11_crowd_7 rfl rfl
def zrX_pack : Room := { frames := 4, cells := 0, slots := 0, locals := 140 }
set_option maxHeartbeats 4000000 in
theorem tX_pack {l : Launch} {g : ZG} {X : ZB} {N : ZB} {T : ZB} {Rd : ZB} {Fr : ZB} {Ac : ZA} {Ch : ZB} {PS : ZB} {Ly : ZB} {Pa : ZQ} {OT : ZB} {Ea : ZB} {Ga : ZB} {Im0 : ZO} {Im1 : ZO} {La : ZB}  {r : Int × ZB × ZA × ZB} (h : fX_pack N Ac Ch = some r) : zMi l yX11_pack cX11_pack 3 (some .int) zrX_pack g [.ref (g.2.2 0)] (wX g X N T Rd Fr Ac Ch PS Ly Pa OT Ea Ga Im0 Im1 La) (wX g X r.2.1 T Rd Fr r.2.2.1 r.2.2.2 PS Ly Pa OT Ea Ga Im0 Im1 La) (zI r.1) := by
  unfold fX_pack at h
  refine zMi_q (own := RX11) rfl (by decide +kernel) (Nat.le_of_ble_eq_true rfl) (lv := [(0, .ref (g.2.2 0))]) rfl ⟨rfl, rfl⟩ ?_
  intro p e s m args below meth c A Q hQ cx
  refine z_aload_n cx d_X11_pack_0 1 rfl rfl 0 rfl ?_
  refine z_get cx d_X11_pack_1 4 rfl e_X rfl zX11 3 (by decide) q_435 rfl rfl ?_
  refine y_callV_v (As := []) (rest := []) (W := fun u_1 => wX g X N T Rd Fr u_1 Ch PS Ly Pa OT Ea Ga Im0 Im1 La) (rm := zrAc_before) cx (fun _ hq => tAc_before hq) d_X11_pack_4 7 rfl kk_X0_before q_507 q_508 q_509 rfl e_Ac rfl ⟨rfl, rfl⟩ ⟨Nat.le_of_ble_eq_true rfl, Nat.le_of_ble_eq_true rfl⟩ rfl rfl (Nat.le_of_ble_eq_true rfl) ⟨Nat.zero_le _, Nat.zero_le _⟩ h (fun u_1 h => ?_)
  refine y_iconst cx d_X11_pack_7 8 rfl ?_
  refine y_istore_n cx d_X11_pack_8 9 rfl rfl (by decide) (lv' := [(1, .int (zI 0)), (0, .ref (g.2.2 0))]) rfl ?_
  refine y_iconst cx d_X11_pack_9 10 rfl ?_
  refine y_istore_n cx d_X11_pack_10 11 rfl rfl (by decide) (lv' := [(2, .int (zI 0)), (1, .int (zI 0)), (0, .ref (g.2.2 0))]) rfl ?_
  refine z_sub [2, 1, 0] rfl ?_
  refine lop4_f (P := fun (v1_2 : Int) (v2_3 : Int) (N_4 : ZB) (Ch_5 : ZB) => V p l e zrX_pack s m args below meth c A s.heap g 3 Q (wX g X N_4 T Rd Fr u_1 Ch_5 PS Ly Pa OT Ea Ga Im0 Im1 La) 0 0 [(0, .ref (g.2.2 0)), (1, .int (zI v1_2)), (2, .int (zI v2_3))] 11 []) (fun rec_6 hrec_6 v1_2 v2_3 N_4 Ch_5 h => ?_) _ _ _ _ _ h
  refine z_iload_n cx d_X11_pack_11 12 rfl rfl 2 rfl ?_
  refine z_aload_n cx d_X11_pack_12 13 rfl rfl 0 rfl ?_
  refine z_get cx d_X11_pack_13 16 rfl e_X rfl zX11 0 (by decide) q_432 rfl rfl ?_
  refine z_get cx d_X11_pack_16 19 rfl e_N rfl zX5 5 (by decide) q_87 rfl rfl ?_
  refine y_icmp_ge cx d_X11_pack_19 22 rfl 57 (by decide) rfl rfl h (fun h => ?_) (fun h => ?_)
  · refine z_iload_n cx d_X11_pack_57 58 rfl rfl 1 rfl ?_
    refine kf1_f (P := fun (Ac_7 : ZA) => V p l e zrX_pack s m args below meth c A s.heap g 3 Q (wX g X N_4 T Rd Fr Ac_7 Ch_5 PS Ly Pa OT Ea Ga Im0 Im1 La) 0 0 [(1, .int (zI v1_2))] 68 []) h (fun Ac_7 h => ?_) (fun k_8 hk_8 h => ?_)
    · refine z_iload_n cx d_X11_pack_68 69 rfl rfl 0 rfl ?_
      subst hQ
      obtain rfl := Option.some.inj h
      exact z_iret cx d_X11_pack_69 rfl rfl
    refine y_if_le cx d_X11_pack_58 61 rfl 68 (by decide) rfl h (fun h => ?_) (fun h => ?_)
    · refine z_sub [1] rfl ?_
      exact hk_8 _ h
    · refine z_aload_n cx d_X11_pack_61 62 rfl rfl 0 rfl ?_
      refine z_get cx d_X11_pack_62 65 rfl e_X rfl zX11 3 (by decide) q_435 rfl rfl ?_
      refine y_callV_v (As := []) (rest := []) (W := fun u_9 => wX g X N_4 T Rd Fr u_9 Ch_5 PS Ly Pa OT Ea Ga Im0 Im1 La) (rm := zr0) cx (fun _ hq => tAc_done hq) d_X11_pack_65 68 rfl kk_X0_done q_518 q_519 q_520 rfl e_Ac rfl ⟨rfl, rfl⟩ ⟨Nat.le_of_ble_eq_true rfl, Nat.le_of_ble_eq_true rfl⟩ rfl rfl (Nat.le_of_ble_eq_true rfl) ⟨Nat.zero_le _, Nat.zero_le _⟩ h (fun u_9 h => ?_)
      refine z_sub [1] rfl ?_
      exact hk_8 _ h
  · refine z_aload_n cx d_X11_pack_22 23 rfl rfl 0 rfl ?_
    refine z_iload_n cx d_X11_pack_23 24 rfl rfl 2 rfl ?_
    refine y_callV_i (As := [.int (zI v2_3)]) (rest := []) (W := fun u_10 => wX g X N_4 T Rd Fr u_1 Ch_5 PS Ly Pa OT Ea Ga Im0 Im1 La) (rf := fun u_10 => zI u_10) (rm := zrX_canBePlaced) cx (fun _ hq => tX_canBePlaced hq) d_X11_pack_24 27 rfl kk_X11_canBePlaced q_530 q_532 q_2 rfl e_X rfl ⟨rfl, rfl⟩ ⟨Nat.le_of_ble_eq_true rfl, Nat.le_of_ble_eq_true rfl⟩ rfl rfl (Nat.le_of_ble_eq_true rfl) ⟨Nat.zero_le _, Nat.zero_le _⟩ h (fun u_10 h => ?_)
    refine kf3_f (P := fun (v1_11 : Int) (N_12 : ZB) (Ch_13 : ZB) => V p l e zrX_pack s m args below meth c A s.heap g 3 Q (wX g X N_12 T Rd Fr u_1 Ch_13 PS Ly Pa OT Ea Ga Im0 Im1 La) 0 0 [(0, .ref (g.2.2 0)), (1, .int (zI v1_11)), (2, .int (zI v2_3))] 51 []) h (fun v1_11 N_12 Ch_13 h => ?_) (fun k_14 hk_14 h => ?_)
    · refine y_iinc cx 2 d_X11_pack_51 54 rfl rfl (by decide) (lv' := [(2, .int (zI (v2_3 + 1))), (0, .ref (g.2.2 0)), (1, .int (zI v1_11))]) rfl ?_
      refine z_goto cx d_X11_pack_54 11 (by decide) ?_
      refine z_sub [1, 2, 0] rfl ?_
      exact hrec_6 _ _ _ _ h
    refine y_if_eq cx d_X11_pack_27 30 rfl 51 (by decide) rfl h (fun h => ?_) (fun h => ?_)
    · exact hk_14 _ _ _ h
    · refine z_aload_n cx d_X11_pack_30 31 rfl rfl 0 rfl ?_
      refine z_get cx d_X11_pack_31 34 rfl e_X rfl zX11 4 (by decide) q_436 rfl rfl ?_
      refine z_iload_n cx d_X11_pack_34 35 rfl rfl 2 rfl ?_
      refine y_callV_i (As := [.int (zI v2_3)]) (rest := []) (W := fun u_15 => wX g X N_4 T Rd Fr u_1 u_15.2 PS Ly Pa OT Ea Ga Im0 Im1 La) (rf := fun u_15 => zI u_15.1) (rm := zrCh_find) cx (fun _ hq => tCh_find hq) d_X11_pack_35 38 rfl kk_X1_find q_534 q_535 q_536 rfl e_Ch rfl ⟨rfl, rfl⟩ ⟨Nat.le_of_ble_eq_true rfl, Nat.le_of_ble_eq_true rfl⟩ rfl rfl (Nat.le_of_ble_eq_true rfl) ⟨Nat.zero_le _, Nat.zero_le _⟩ h (fun u_15 h => ?_)
      refine y_if_le cx d_X11_pack_38 41 rfl 51 (by decide) rfl h (fun h => ?_) (fun h => ?_)
      · exact hk_14 _ _ _ h
      · refine z_aload_n cx d_X11_pack_41 42 rfl rfl 0 rfl ?_
        refine z_get cx d_X11_pack_42 45 rfl e_X rfl zX11 4 (by decide) q_436 rfl rfl ?_
        refine y_callV_v (As := []) (rest := []) (W := fun u_16 => wX g X u_16 T Rd Fr u_1 u_15.2 PS Ly Pa OT Ea Ga Im0 Im1 La) (rm := zr0) cx (fun _ hq => tCh_carryOut hq) d_X11_pack_45 48 rfl kk_X1_carryOut q_551 q_552 q_553 rfl e_Ch rfl ⟨rfl, rfl⟩ ⟨Nat.le_of_ble_eq_true rfl, Nat.le_of_ble_eq_true rfl⟩ rfl rfl (Nat.le_of_ble_eq_true rfl) ⟨Nat.zero_le _, Nat.zero_le _⟩ h (fun u_16 h => ?_)
        refine y_iinc cx 1 d_X11_pack_48 51 rfl rfl (by decide) (lv' := [(1, .int (zI (v1_2 + 1))), (0, .ref (g.2.2 0)), (2, .int (zI v2_3))]) rfl ?_
        refine z_sub [1, 0, 2] rfl ?_
        exact hk_14 _ _ _ h
def zrX_breaks : Room := { frames := 4, cells := 0, slots := 0, locals := 140 }
set_option maxHeartbeats 4000000 in
theorem tX_breaks {l : Launch} {g : ZG} {X : ZB} {N : ZB} {T : ZB} {Rd : ZB} {Fr : ZB} {Ac : ZA} {Ch : ZB} {PS : ZB} {Ly : ZB} {Pa : ZQ} {OT : ZB} {Ea : ZB} {Ga : ZB} {Im0 : ZO} {Im1 : ZO} {La : ZB} {a1 : Int} {r : Int × ZB × ZA} (h : fX_breaks N Ac a1 = some r) : zMi l yX11_breaks cX11_breaks 2 (some .int) zrX_breaks g [.ref (g.2.2 0), .int (zI a1)] (wX g X N T Rd Fr Ac Ch PS Ly Pa OT Ea Ga Im0 Im1 La) (wX g X r.2.1 T Rd Fr r.2.2 Ch PS Ly Pa OT Ea Ga Im0 Im1 La) (zI r.1) := by
  unfold fX_breaks at h
  refine zMi_q (own := RX11) rfl (by decide +kernel) (Nat.le_of_ble_eq_true rfl) (lv := [(0, .ref (g.2.2 0)), (1, .int (zI a1))]) rfl ⟨rfl, rfl⟩ ?_
  intro p e s m args below meth c A Q hQ cx
  refine z_aload_n cx d_X11_breaks_0 1 rfl rfl 0 rfl ?_
  refine z_get cx d_X11_breaks_1 4 rfl e_X rfl zX11 0 (by decide) q_432 rfl rfl ?_
  refine z_iload_n cx d_X11_breaks_4 5 rfl rfl 1 rfl ?_
  refine y_callV_i (As := [.int (zI a1)]) (rest := []) (W := fun u_1 => wX g X N T Rd Fr Ac Ch PS Ly Pa OT Ea Ga Im0 Im1 La) (rf := fun u_1 => zI u_1) (rm := zr0) cx (fun _ hq => tN_hasLine hq) d_X11_breaks_5 8 rfl kk_X5_hasLine q_487 q_488 q_489 rfl e_N rfl ⟨rfl, rfl⟩ ⟨Nat.le_of_ble_eq_true rfl, Nat.le_of_ble_eq_true rfl⟩ rfl rfl (Nat.le_of_ble_eq_true rfl) ⟨Nat.zero_le _, Nat.zero_le _⟩ h (fun u_1 h => ?_)
  refine y_if_ne cx d_X11_breaks_8 11 rfl 13 (by decide) rfl h (fun h => ?_) (fun h => ?_)
  · refine z_aload_n cx d_X11_breaks_13 14 rfl rfl 0 rfl ?_
    refine z_get cx d_X11_breaks_14 17 rfl e_X rfl zX11 0 (by decide) q_432 rfl rfl ?_
    refine z_iload_n cx d_X11_breaks_17 18 rfl rfl 1 rfl ?_
    refine y_callV_i (As := [.int (zI a1)]) (rest := []) (W := fun u_2 => wX g X N T Rd Fr Ac Ch PS Ly Pa OT Ea Ga Im0 Im1 La) (rf := fun u_2 => zI u_2) (rm := zr0) cx (fun _ hq => tN_isSound hq) d_X11_breaks_18 21 rfl kk_X5_isSound q_495 q_496 q_497 rfl e_N rfl ⟨rfl, rfl⟩ ⟨Nat.le_of_ble_eq_true rfl, Nat.le_of_ble_eq_true rfl⟩ rfl rfl (Nat.le_of_ble_eq_true rfl) ⟨Nat.zero_le _, Nat.zero_le _⟩ h (fun u_2 h => ?_)
    refine y_if_ne cx d_X11_breaks_21 24 rfl 26 (by decide) rfl h (fun h => ?_) (fun h => ?_)
    · refine z_aload_n cx d_X11_breaks_26 27 rfl rfl 0 rfl ?_
      refine z_get cx d_X11_breaks_27 30 rfl e_X rfl zX11 3 (by decide) q_435 rfl rfl ?_
      refine y_callV_v (As := []) (rest := []) (W := fun u_3 => wX g X N T Rd Fr u_3 Ch PS Ly Pa OT Ea Ga Im0 Im1 La) (rm := zrAc_before) cx (fun _ hq => tAc_before hq) d_X11_breaks_30 33 rfl kk_X0_before q_507 q_508 q_509 rfl e_Ac rfl ⟨rfl, rfl⟩ ⟨Nat.le_of_ble_eq_true rfl, Nat.le_of_ble_eq_true rfl⟩ rfl rfl (Nat.le_of_ble_eq_true rfl) ⟨Nat.zero_le _, Nat.zero_le _⟩ h (fun u_3 h => ?_)
      refine z_aload_n cx d_X11_breaks_33 34 rfl rfl 0 rfl ?_
      refine z_get cx d_X11_breaks_34 37 rfl e_X rfl zX11 0 (by decide) q_432 rfl rfl ?_
      refine z_iload_n cx d_X11_breaks_37 38 rfl rfl 1 rfl ?_
      refine y_callV_v (As := [.int (zI a1)]) (rest := []) (W := fun u_4 => wX g X u_4 T Rd Fr u_3 Ch PS Ly Pa OT Ea Ga Im0 Im1 La) (rm := zr0) cx (fun _ hq => tN_breakLine hq) d_X11_breaks_38 41 rfl kk_X5_breakLine q_559 q_560 q_561 rfl e_N rfl ⟨rfl, rfl⟩ ⟨Nat.le_of_ble_eq_true rfl, Nat.le_of_ble_eq_true rfl⟩ rfl rfl (Nat.le_of_ble_eq_true rfl) ⟨Nat.zero_le _, Nat.zero_le _⟩ h (fun u_4 h => ?_)
      refine z_aload_n cx d_X11_breaks_41 42 rfl rfl 0 rfl ?_
      refine z_get cx d_X11_breaks_42 45 rfl e_X rfl zX11 3 (by decide) q_435 rfl rfl ?_
      refine y_callV_v (As := []) (rest := []) (W := fun u_5 => wX g X u_4 T Rd Fr u_5 Ch PS Ly Pa OT Ea Ga Im0 Im1 La) (rm := zr0) cx (fun _ hq => tAc_done hq) d_X11_breaks_45 48 rfl kk_X0_done q_518 q_519 q_520 rfl e_Ac rfl ⟨rfl, rfl⟩ ⟨Nat.le_of_ble_eq_true rfl, Nat.le_of_ble_eq_true rfl⟩ rfl rfl (Nat.le_of_ble_eq_true rfl) ⟨Nat.zero_le _, Nat.zero_le _⟩ h (fun u_5 h => ?_)
      refine y_iconst cx d_X11_breaks_48 49 rfl ?_
      subst hQ
      obtain rfl := Option.some.inj h
      exact z_iret cx d_X11_breaks_49 rfl rfl
    · refine y_iconst cx d_X11_breaks_24 25 rfl ?_
      subst hQ
      obtain rfl := Option.some.inj h
      exact z_iret cx d_X11_breaks_25 rfl rfl
  · refine y_iconst cx d_X11_breaks_11 12 rfl ?_
    subst hQ
    obtain rfl := Option.some.inj h
    exact z_iret cx d_X11_breaks_12 rfl rfl
def zrX_mend : Room := { frames := 4, cells := 0, slots := 0, locals := 140 }
set_option maxHeartbeats 4000000 in
theorem tX_mend {l : Launch} {g : ZG} {X : ZB} {N : ZB} {T : ZB} {Rd : ZB} {Fr : ZB} {Ac : ZA} {Ch : ZB} {PS : ZB} {Ly : ZB} {Pa : ZQ} {OT : ZB} {Ea : ZB} {Ga : ZB} {Im0 : ZO} {Im1 : ZO} {La : ZB} {a1 : Int} {r : Int × ZB × ZA} (h : fX_mend N Ac a1 = some r) : zMi l yX11_mend cX11_mend 2 (some .int) zrX_mend g [.ref (g.2.2 0), .int (zI a1)] (wX g X N T Rd Fr Ac Ch PS Ly Pa OT Ea Ga Im0 Im1 La) (wX g X r.2.1 T Rd Fr r.2.2 Ch PS Ly Pa OT Ea Ga Im0 Im1 La) (zI r.1) := by
  unfold fX_mend at h
  refine zMi_q (own := RX11) rfl (by decide +kernel) (Nat.le_of_ble_eq_true rfl) (lv := [(0, .ref (g.2.2 0)), (1, .int (zI a1))]) rfl ⟨rfl, rfl⟩ ?_
  intro p e s m args below meth c A Q hQ cx
  refine z_aload_n cx d_X11_mend_0 1 rfl rfl 0 rfl ?_
  refine z_get cx d_X11_mend_1 4 rfl e_X rfl zX11 0 (by decide) q_432 rfl rfl ?_
  refine z_iload_n cx d_X11_mend_4 5 rfl rfl 1 rfl ?_
  refine y_callV_i (As := [.int (zI a1)]) (rest := []) (W := fun u_1 => wX g X N T Rd Fr Ac Ch PS Ly Pa OT Ea Ga Im0 Im1 La) (rf := fun u_1 => zI u_1) (rm := zr0) cx (fun _ hq => tN_hasLine hq) d_X11_mend_5 8 rfl kk_X5_hasLine q_487 q_488 q_489 rfl e_N rfl ⟨rfl, rfl⟩ ⟨Nat.le_of_ble_eq_true rfl, Nat.le_of_ble_eq_true rfl⟩ rfl rfl (Nat.le_of_ble_eq_true rfl) ⟨Nat.zero_le _, Nat.zero_le _⟩ h (fun u_1 h => ?_)
  refine y_if_ne cx d_X11_mend_8 11 rfl 13 (by decide) rfl h (fun h => ?_) (fun h => ?_)
  · refine z_aload_n cx d_X11_mend_13 14 rfl rfl 0 rfl ?_
    refine z_get cx d_X11_mend_14 17 rfl e_X rfl zX11 0 (by decide) q_432 rfl rfl ?_
    refine z_iload_n cx d_X11_mend_17 18 rfl rfl 1 rfl ?_
    refine y_callV_i (As := [.int (zI a1)]) (rest := []) (W := fun u_2 => wX g X N T Rd Fr Ac Ch PS Ly Pa OT Ea Ga Im0 Im1 La) (rf := fun u_2 => zI u_2) (rm := zr0) cx (fun _ hq => tN_isSound hq) d_X11_mend_18 21 rfl kk_X5_isSound q_495 q_496 q_497 rfl e_N rfl ⟨rfl, rfl⟩ ⟨Nat.le_of_ble_eq_true rfl, Nat.le_of_ble_eq_true rfl⟩ rfl rfl (Nat.le_of_ble_eq_true rfl) ⟨Nat.zero_le _, Nat.zero_le _⟩ h (fun u_2 h => ?_)
    refine y_if_eq cx d_X11_mend_21 24 rfl 26 (by decide) rfl h (fun h => ?_) (fun h => ?_)
    · refine z_aload_n cx d_X11_mend_26 27 rfl rfl 0 rfl ?_
      refine z_get cx d_X11_mend_27 30 rfl e_X rfl zX11 3 (by decide) q_435 rfl rfl ?_
      refine y_callV_v (As := []) (rest := []) (W := fun u_3 => wX g X N T Rd Fr u_3 Ch PS Ly Pa OT Ea Ga Im0 Im1 La) (rm := zrAc_before) cx (fun _ hq => tAc_before hq) d_X11_mend_30 33 rfl kk_X0_before q_507 q_508 q_509 rfl e_Ac rfl ⟨rfl, rfl⟩ ⟨Nat.le_of_ble_eq_true rfl, Nat.le_of_ble_eq_true rfl⟩ rfl rfl (Nat.le_of_ble_eq_true rfl) ⟨Nat.zero_le _, Nat.zero_le _⟩ h (fun u_3 h => ?_)
      refine z_aload_n cx d_X11_mend_33 34 rfl rfl 0 rfl ?_
      refine z_get cx d_X11_mend_34 37 rfl e_X rfl zX11 0 (by decide) q_432 rfl rfl ?_
      refine z_iload_n cx d_X11_mend_37 38 rfl rfl 1 rfl ?_
      refine y_callV_v (As := [.int (zI a1)]) (rest := []) (W := fun u_4 => wX g X u_4 T Rd Fr u_3 Ch PS Ly Pa OT Ea Ga Im0 Im1 La) (rm := zr0) cx (fun _ hq => tN_mendLine hq) d_X11_mend_38 41 rfl kk_X5_mendLine q_567 q_568 q_569 rfl e_N rfl ⟨rfl, rfl⟩ ⟨Nat.le_of_ble_eq_true rfl, Nat.le_of_ble_eq_true rfl⟩ rfl rfl (Nat.le_of_ble_eq_true rfl) ⟨Nat.zero_le _, Nat.zero_le _⟩ h (fun u_4 h => ?_)
      refine z_aload_n cx d_X11_mend_41 42 rfl rfl 0 rfl ?_
      refine z_get cx d_X11_mend_42 45 rfl e_X rfl zX11 3 (by decide) q_435 rfl rfl ?_
      refine y_callV_v (As := []) (rest := []) (W := fun u_5 => wX g X u_4 T Rd Fr u_5 Ch PS Ly Pa OT Ea Ga Im0 Im1 La) (rm := zr0) cx (fun _ hq => tAc_done hq) d_X11_mend_45 48 rfl kk_X0_done q_518 q_519 q_520 rfl e_Ac rfl ⟨rfl, rfl⟩ ⟨Nat.le_of_ble_eq_true rfl, Nat.le_of_ble_eq_true rfl⟩ rfl rfl (Nat.le_of_ble_eq_true rfl) ⟨Nat.zero_le _, Nat.zero_le _⟩ h (fun u_5 h => ?_)
      refine y_iconst cx d_X11_mend_48 49 rfl ?_
      subst hQ
      obtain rfl := Option.some.inj h
      exact z_iret cx d_X11_mend_49 rfl rfl
    · refine y_iconst cx d_X11_mend_24 25 rfl ?_
      subst hQ
      obtain rfl := Option.some.inj h
      exact z_iret cx d_X11_mend_25 rfl rfl
  · refine y_iconst cx d_X11_mend_11 12 rfl ?_
    subst hQ
    obtain rfl := Option.some.inj h
    exact z_iret cx d_X11_mend_12 rfl rfl
def zrX_most : Room := { frames := 4, cells := 0, slots := 0, locals := 90 }
set_option maxHeartbeats 4000000 in
theorem tX_most {l : Launch} {g : ZG} {X : ZB} {N : ZB} {T : ZB} {Rd : ZB} {Fr : ZB} {Ac : ZA} {Ch : ZB} {PS : ZB} {Ly : ZB} {Pa : ZQ} {OT : ZB} {Ea : ZB} {Ga : ZB} {Im0 : ZO} {Im1 : ZO} {La : ZB} {a1 : Int} {r : Int × ZB} (h : fX_most N PS a1 = some r) : zMi l yX11_most cX11_most 2 (some .int) zrX_most g [.ref (g.2.2 0), .int (zI a1)] (wX g X N T Rd Fr Ac Ch PS Ly Pa OT Ea Ga Im0 Im1 La) (wX g X N T Rd Fr Ac Ch r.2 Ly Pa OT Ea Ga Im0 Im1 La) (zI r.1) := by
  unfold fX_most at h
  refine zMi_q (own := RX11) rfl (by decide +kernel) (Nat.le_of_ble_eq_true rfl) (lv := [(0, .ref (g.2.2 0)), (1, .int (zI a1))]) rfl ⟨rfl, rfl⟩ ?_
  intro p e s m args below meth c A Q hQ cx
  refine z_iload_n cx d_X11_most_0 1 rfl rfl 1 rfl ?_
  refine kf2_f (P := fun (w0_1 : Int) (PS_2 : ZB) => V p l e zrX_most s m args below meth c A s.heap g 2 Q (wX g X N T Rd Fr Ac Ch PS_2 Ly Pa OT Ea Ga Im0 Im1 La) 0 0 [] 25 [.int (zI w0_1)]) h (fun w0_1 PS_2 h => ?_) (fun k_3 hk_3 h => ?_)
  · subst hQ
    obtain rfl := Option.some.inj h
    exact z_iret cx d_X11_most_25 rfl rfl
  refine kf0_f (P := V p l e zrX_most s m args below meth c A s.heap g 2 Q (wX g X N T Rd Fr Ac Ch PS Ly Pa OT Ea Ga Im0 Im1 La) 0 0 [] 10 []) h (fun h => ?_) (fun k_4 hk_4 h => ?_)
  · refine y_iconst cx d_X11_most_10 11 rfl ?_
    refine z_goto cx d_X11_most_11 25 (by decide) ?_
    exact hk_3 _ _ h
  refine y_if_lt cx d_X11_most_1 4 rfl 10 (by decide) rfl h (fun h => ?_) (fun h => ?_)
  · refine z_sub [] rfl ?_
    exact hk_4  h
  · refine z_iload_n cx d_X11_most_4 5 rfl rfl 1 rfl ?_
    refine y_bipush cx d_X11_most_5 7 rfl (by decide) ?_
    refine y_icmp_le cx d_X11_most_7 10 rfl 14 (by decide) rfl (nm_eq (x := 24) (by decide) (by decide)) h (fun h => ?_) (fun h => ?_)
    · refine z_aload_n cx d_X11_most_14 15 rfl rfl 0 rfl ?_
      refine z_get cx d_X11_most_15 18 rfl e_X rfl zX11 5 (by decide) q_437 rfl rfl ?_
      refine z_iload_n cx d_X11_most_18 19 rfl rfl 1 rfl ?_
      refine y_callV_i (As := [.int (zI a1)]) (rest := []) (W := fun u_5 => wX g X N T Rd Fr Ac Ch u_5.2 Ly Pa OT Ea Ga Im0 Im1 La) (rf := fun u_5 => zI u_5.1) (rm := zrPS_takeByNumber) cx (fun _ hq => tPS_takeByNumber hq) d_X11_most_19 22 rfl kk_X8_takeByNumber q_575 q_576 q_577 rfl e_PS rfl ⟨rfl, rfl⟩ ⟨Nat.le_of_ble_eq_true rfl, Nat.le_of_ble_eq_true rfl⟩ rfl rfl (Nat.le_of_ble_eq_true rfl) ⟨Nat.zero_le _, Nat.zero_le _⟩ h (fun u_5 h => ?_)
      refine y_callS_i (As := [.int (zI u_5.1)]) (rest := []) (W := fun u_6 => wX g X N T Rd Fr Ac Ch u_5.2 Ly Pa OT Ea Ga Im0 Im1 La) (rf := fun u_6 => zI u_6) (rm := zr0) cx (fun _ hq => tJI_bitCount hq) d_X11_most_22 25 rfl kk_B_bitCount q_606 q_601 ⟨rfl, rfl⟩ ⟨Nat.le_of_ble_eq_true rfl, Nat.le_of_ble_eq_true rfl⟩ rfl rfl (Nat.le_of_ble_eq_true rfl) ⟨Nat.zero_le _, Nat.zero_le _⟩ h (fun u_6 h => ?_)
      refine z_sub [] rfl ?_
      exact hk_3 _ _ h
    · refine z_sub [] rfl ?_
      exact hk_4  h
def zrX_fewest : Room := { frames := 5, cells := 0, slots := 0, locals := 110 }
set_option maxHeartbeats 4000000 in
theorem tX_fewest {l : Launch} {g : ZG} {X : ZB} {N : ZB} {T : ZB} {Rd : ZB} {Fr : ZB} {Ac : ZA} {Ch : ZB} {PS : ZB} {Ly : ZB} {Pa : ZQ} {OT : ZB} {Ea : ZB} {Ga : ZB} {Im0 : ZO} {Im1 : ZO} {La : ZB}  {r : Int × ZB} (h : fX_fewest N PS = some r) : zMi l yX11_fewest cX11_fewest 1 (some .int) zrX_fewest g [.ref (g.2.2 0)] (wX g X N T Rd Fr Ac Ch PS Ly Pa OT Ea Ga Im0 Im1 La) (wX g X N T Rd Fr Ac Ch r.2 Ly Pa OT Ea Ga Im0 Im1 La) (zI r.1) := by
  unfold fX_fewest at h
  refine zMi_q (own := RX11) rfl (by decide +kernel) (Nat.le_of_ble_eq_true rfl) (lv := [(0, .ref (g.2.2 0))]) rfl ⟨rfl, rfl⟩ ?_
  intro p e s m args below meth c A Q hQ cx
  refine z_aload_n cx d_X11_fewest_0 1 rfl rfl 0 rfl ?_
  refine z_get cx d_X11_fewest_1 4 rfl e_X rfl zX11 5 (by decide) q_437 rfl rfl ?_
  refine y_callV_i (As := []) (rest := []) (W := fun u_1 => wX g X N T Rd Fr Ac Ch u_1.2 Ly Pa OT Ea Ga Im0 Im1 La) (rf := fun u_1 => zI u_1.1) (rm := zrPS_fewestForests) cx (fun _ hq => tPS_fewestForests hq) d_X11_fewest_4 7 rfl kk_X8_fewestForests q_928 q_929 q_930 rfl e_PS rfl ⟨rfl, rfl⟩ ⟨Nat.le_of_ble_eq_true rfl, Nat.le_of_ble_eq_true rfl⟩ rfl rfl (Nat.le_of_ble_eq_true rfl) ⟨Nat.zero_le _, Nat.zero_le _⟩ h (fun u_1 h => ?_)
  subst hQ
  obtain rfl := Option.some.inj h
  exact z_iret cx d_X11_fewest_7 rfl rfl
def zrX_trees : Room := { frames := 5, cells := 0, slots := 0, locals := 112 }
set_option maxHeartbeats 4000000 in
theorem tX_trees {l : Launch} {g : ZG} {X : ZB} {N : ZB} {T : ZB} {Rd : ZB} {Fr : ZB} {Ac : ZA} {Ch : ZB} {PS : ZB} {Ly : ZB} {Pa : ZQ} {OT : ZB} {Ea : ZB} {Ga : ZB} {Im0 : ZO} {Im1 : ZO} {La : ZB}  {r : Int × ZB} (h : fX_trees N PS = some r) : zMi l yX11_trees cX11_trees 1 (some .int) zrX_trees g [.ref (g.2.2 0)] (wX g X N T Rd Fr Ac Ch PS Ly Pa OT Ea Ga Im0 Im1 La) (wX g X N T Rd Fr Ac Ch r.2 Ly Pa OT Ea Ga Im0 Im1 La) (zI r.1) := by
  unfold fX_trees at h
  refine zMi_q (own := RX11) rfl (by decide +kernel) (Nat.le_of_ble_eq_true rfl) (lv := [(0, .ref (g.2.2 0))]) rfl ⟨rfl, rfl⟩ ?_
  intro p e s m args below meth c A Q hQ cx
  refine z_aload_n cx d_X11_trees_0 1 rfl rfl 0 rfl ?_
  refine z_get cx d_X11_trees_1 4 rfl e_X rfl zX11 0 (by decide) q_432 rfl rfl ?_
  refine z_get cx d_X11_trees_4 7 rfl e_N rfl zX5 4 (by decide) q_82 rfl rfl ?_
  refine y_iconst cx d_X11_trees_7 8 rfl ?_
  refine kf2_f (P := fun (w0_1 : Int) (PS_2 : ZB) => V p l e zrX_trees s m args below meth c A s.heap g 1 Q (wX g X N T Rd Fr Ac Ch PS_2 Ly Pa OT Ea Ga Im0 Im1 La) 0 0 [] 22 [.int (zI w0_1)]) h (fun w0_1 PS_2 h => ?_) (fun k_3 hk_3 h => ?_)
  · subst hQ
    obtain rfl := Option.some.inj h
    exact z_iret cx d_X11_trees_22 rfl rfl
  refine y_icmp_ge cx d_X11_trees_8 11 rfl 15 (by decide) rfl (nm_eq (x := 2) (by decide) (by decide)) h (fun h => ?_) (fun h => ?_)
  · refine z_aload_n cx d_X11_trees_15 16 rfl rfl 0 rfl ?_
    refine z_get cx d_X11_trees_16 19 rfl e_X rfl zX11 5 (by decide) q_437 rfl rfl ?_
    refine y_callV_i (As := []) (rest := []) (W := fun u_4 => wX g X N T Rd Fr Ac Ch u_4.2 Ly Pa OT Ea Ga Im0 Im1 La) (rf := fun u_4 => zI u_4.1) (rm := zrPS_mostTrees) cx (fun _ hq => tPS_mostTrees hq) d_X11_trees_19 22 rfl kk_X8_mostTrees q_978 q_979 q_980 rfl e_PS rfl ⟨rfl, rfl⟩ ⟨Nat.le_of_ble_eq_true rfl, Nat.le_of_ble_eq_true rfl⟩ rfl rfl (Nat.le_of_ble_eq_true rfl) ⟨Nat.zero_le _, Nat.zero_le _⟩ h (fun u_4 h => ?_)
    refine z_sub [] rfl ?_
    exact hk_3 _ _ h
  · refine y_iconst cx d_X11_trees_11 12 rfl ?_
    refine z_goto cx d_X11_trees_12 22 (by decide) ?_
    refine z_sub [] rfl ?_
    exact hk_3 _ _ h
set_option maxHeartbeats 4000000 in
theorem tX_leastTerms {l : Launch} {g : ZG} {w : va_W} {a1 : Int} {a2 : Int} {a3 : Int} {r : Int} (h : fX_leastTerms a1 a2 a3 = some r) : zMi l yX11_leastTerms cX11_leastTerms 7 (some .int) zr0 g [.int (zI a1), .int (zI a2), .int (zI a3)] (w) (w) (zI r) := by
  unfold fX_leastTerms at h
  refine zMi_q (own := RX11) rfl (by decide +kernel) (Nat.le_of_ble_eq_true rfl) (lv := [(0, .int (zI a1)), (1, .int (zI a2)), (2, .int (zI a3))]) rfl ⟨rfl, rfl⟩ ?_
  intro p e s m args below meth c A Q hQ cx
  refine z_iload_n cx d_X11_leastTerms_0 1 rfl rfl 1 rfl ?_
  refine y_istore_n cx d_X11_leastTerms_1 2 rfl rfl (by decide) (lv' := [(3, .int (zI a2)), (0, .int (zI a1)), (1, .int (zI a2)), (2, .int (zI a3))]) rfl ?_
  refine z_iload_n cx d_X11_leastTerms_2 3 rfl rfl 1 rfl ?_
  refine y_istore cx d_X11_leastTerms_3 5 rfl (by decide) (lv' := [(4, .int (zI a1)), (3, .int (zI a2)), (0, .int (zI a1)), (1, .int (zI a2)), (2, .int (zI a3))]) rfl ?_
  refine y_iconst cx d_X11_leastTerms_5 6 rfl ?_
  refine y_istore cx d_X11_leastTerms_6 8 rfl (by decide) (lv' := [(5, .int (zI 0)), (4, .int (zI a1)), (3, .int (zI a2)), (0, .int (zI a1)), (1, .int (zI a2)), (2, .int (zI a3))]) rfl ?_
  refine z_sub [3, 4, 5, 2, 1, 0] rfl ?_
  refine lop3_f (P := fun (v3_1 : Int) (v4_2 : Int) (v5_3 : Int) => V p l e zr0 s m args below meth c A s.heap g 7 Q (w) 0 0 [(0, .int (zI a1)), (1, .int (zI a2)), (2, .int (zI a3)), (3, .int (zI v3_1)), (4, .int (zI v4_2)), (5, .int (zI v5_3))] 8 []) (fun rec_4 hrec_4 v3_1 v4_2 v5_3 h => ?_) _ _ _ _ h
  refine z_iload cx d_X11_leastTerms_8 10 rfl 5 rfl ?_
  refine y_bipush cx d_X11_leastTerms_10 12 rfl (by decide) ?_
  refine kf0_f (P := V p l e zr0 s m args below meth c A s.heap g 7 Q (w) 0 0 [(0, .int (zI a1)), (1, .int (zI a2)), (2, .int (zI a3)), (3, .int (zI v3_1))] 39 []) h (fun h => ?_) (fun k_5 hk_5 h => ?_)
  · refine z_iload_n cx d_X11_leastTerms_39 40 rfl rfl 2 rfl ?_
    refine kf1_f (P := fun (w0_6 : Int) => V p l e zr0 s m args below meth c A s.heap g 7 Q (w) 0 0 [(3, .int (zI v3_1))] 48 [.int (zI w0_6)]) h (fun w0_6 h => ?_) (fun k_7 hk_7 h => ?_)
    · refine y_istore cx d_X11_leastTerms_48 50 rfl (by decide) (lv' := [(5, .int (zI w0_6)), (3, .int (zI v3_1))]) rfl ?_
      refine z_iload_n cx d_X11_leastTerms_50 51 rfl rfl 1 rfl ?_
      refine kf1_f (P := fun (w0_8 : Int) => V p l e zr0 s m args below meth c A s.heap g 7 Q (w) 0 0 [] 63 [.int (zI w0_8)]) h (fun w0_8 h => ?_) (fun k_9 hk_9 h => ?_)
      · subst hQ
        obtain rfl := Option.some.inj h
        exact z_iret cx d_X11_leastTerms_63 rfl rfl
      refine y_if_ne cx d_X11_leastTerms_51 54 rfl 59 (by decide) rfl h (fun h => ?_) (fun h => ?_)
      · refine z_iload cx d_X11_leastTerms_59 61 rfl 0 rfl ?_
        refine z_iload_n cx d_X11_leastTerms_61 62 rfl rfl 1 rfl ?_
        refine y_idiv cx d_X11_leastTerms_62 63 rfl h (fun h => ?_)
        refine z_sub [] rfl ?_
        exact hk_9 _ h
      · refine z_iload cx d_X11_leastTerms_54 56 rfl 0 rfl ?_
        refine z_goto cx d_X11_leastTerms_56 63 (by decide) ?_
        refine z_sub [] rfl ?_
        exact hk_9 _ h
    refine y_if_ne cx d_X11_leastTerms_40 43 rfl 47 (by decide) rfl h (fun h => ?_) (fun h => ?_)
    · refine z_iload_n cx d_X11_leastTerms_47 48 rfl rfl 1 rfl ?_
      refine z_sub [3] rfl ?_
      exact hk_7 _ h
    · refine z_iload_n cx d_X11_leastTerms_43 44 rfl rfl 0 rfl ?_
      refine z_goto cx d_X11_leastTerms_44 48 (by decide) ?_
      refine z_sub [3] rfl ?_
      exact hk_7 _ h
  refine y_icmp_ge cx d_X11_leastTerms_12 15 rfl 39 (by decide) rfl (nm_eq (x := 64) (by decide) (by decide)) h (fun h => ?_) (fun h => ?_)
  · refine z_sub [0, 1, 2, 3] rfl ?_
    exact hk_5  h
  · refine z_iload cx d_X11_leastTerms_15 17 rfl 4 rfl ?_
    refine y_if_eq cx d_X11_leastTerms_17 20 rfl 39 (by decide) rfl h (fun h => ?_) (fun h => ?_)
    · refine z_sub [0, 1, 2, 3] rfl ?_
      exact hk_5  h
    · refine z_iload_n cx d_X11_leastTerms_20 21 rfl rfl 3 rfl ?_
      refine z_iload cx d_X11_leastTerms_21 23 rfl 4 rfl ?_
      refine y_irem cx d_X11_leastTerms_23 24 rfl h (fun h => ?_)
      refine y_istore_b cx d_X11_leastTerms_24 26 rfl (by decide) (fun y => [(6, .int (zI y)), (0, .int (zI a1)), (1, .int (zI a2)), (2, .int (zI a3)), (3, .int (zI v3_1)), (4, .int (zI v4_2)), (5, .int (zI v5_3))]) (fun y => rfl) h (fun v6_10 h => ?_)
      refine z_iload cx d_X11_leastTerms_26 28 rfl 5 rfl ?_
      refine y_istore_n cx d_X11_leastTerms_28 29 rfl rfl (by decide) (lv' := [(3, .int (zI v4_2)), (6, .int (zI v6_10)), (0, .int (zI a1)), (1, .int (zI a2)), (2, .int (zI a3)), (4, .int (zI v4_2)), (5, .int (zI v5_3))]) rfl ?_
      refine z_iload cx d_X11_leastTerms_29 31 rfl 1 rfl ?_
      refine y_istore cx d_X11_leastTerms_31 33 rfl (by decide) (lv' := [(4, .int (zI v6_10)), (3, .int (zI v4_2)), (6, .int (zI v6_10)), (0, .int (zI a1)), (1, .int (zI a2)), (2, .int (zI a3)), (5, .int (zI v5_3))]) rfl ?_
      refine y_iinc cx 6 d_X11_leastTerms_33 36 rfl rfl (by decide) (lv' := [(5, .int (zI (v5_3 + 1))), (4, .int (zI v6_10)), (3, .int (zI v4_2)), (6, .int (zI v6_10)), (0, .int (zI a1)), (1, .int (zI a2)), (2, .int (zI a3))]) rfl ?_
      refine z_goto cx d_X11_leastTerms_36 8 (by decide) ?_
      refine z_sub [4, 5, 6, 2, 1, 0] rfl ?_
      exact hrec_4 _ _ _ h
def zrX_thick : Room := { frames := 4, cells := 0, slots := 0, locals := 91 }
set_option maxHeartbeats 4000000 in
theorem tX_thick {l : Launch} {g : ZG} {X : ZB} {N : ZB} {T : ZB} {Rd : ZB} {Fr : ZB} {Ac : ZA} {Ch : ZB} {PS : ZB} {Ly : ZB} {Pa : ZQ} {OT : ZB} {Ea : ZB} {Ga : ZB} {Im0 : ZO} {Im1 : ZO} {La : ZB} {a1 : Int} {r : Int × ZB} (h : fX_thick N PS a1 = some r) : zMi l yX11_thick cX11_thick 2 (some .int) zrX_thick g [.ref (g.2.2 0), .int (zI a1)] (wX g X N T Rd Fr Ac Ch PS Ly Pa OT Ea Ga Im0 Im1 La) (wX g X N T Rd Fr Ac Ch r.2 Ly Pa OT Ea Ga Im0 Im1 La) (zI r.1) := by
  unfold fX_thick at h
  refine zMi_q (own := RX11) rfl (by decide +kernel) (Nat.le_of_ble_eq_true rfl) (lv := [(0, .ref (g.2.2 0)), (1, .int (zI a1))]) rfl ⟨rfl, rfl⟩ ?_
  intro p e s m args below meth c A Q hQ cx
  refine z_aload_n cx d_X11_thick_0 1 rfl rfl 0 rfl ?_
  refine z_get cx d_X11_thick_1 4 rfl e_X rfl zX11 0 (by decide) q_432 rfl rfl ?_
  refine z_get cx d_X11_thick_4 7 rfl e_N rfl zX5 4 (by decide) q_82 rfl rfl ?_
  refine y_iconst cx d_X11_thick_7 8 rfl ?_
  refine kf0_f (P := V p l e zrX_thick s m args below meth c A s.heap g 2 Q (wX g X N T Rd Fr Ac Ch PS Ly Pa OT Ea Ga Im0 Im1 La) 0 0 [] 20 []) h (fun h => ?_) (fun k_1 hk_1 h => ?_)
  · refine y_iconst cx d_X11_thick_20 21 rfl ?_
    subst hQ
    obtain rfl := Option.some.inj h
    exact z_iret cx d_X11_thick_21 rfl rfl
  refine y_icmp_lt cx d_X11_thick_8 11 rfl 20 (by decide) rfl (nm_eq (x := 2) (by decide) (by decide)) h (fun h => ?_) (fun h => ?_)
  · refine z_sub [] rfl ?_
    exact hk_1  h
  · refine z_iload_n cx d_X11_thick_11 12 rfl rfl 1 rfl ?_
    refine y_if_lt cx d_X11_thick_12 15 rfl 20 (by decide) rfl h (fun h => ?_) (fun h => ?_)
    · refine z_sub [] rfl ?_
      exact hk_1  h
    · refine z_iload_n cx d_X11_thick_15 16 rfl rfl 1 rfl ?_
      refine y_iconst cx d_X11_thick_16 17 rfl ?_
      refine y_icmp_le cx d_X11_thick_17 20 rfl 22 (by decide) rfl (nm_eq (x := 2) (by decide) (by decide)) h (fun h => ?_) (fun h => ?_)
      · refine z_aload_n cx d_X11_thick_22 23 rfl rfl 0 rfl ?_
        refine z_get cx d_X11_thick_23 26 rfl e_X rfl zX11 5 (by decide) q_437 rfl rfl ?_
        refine y_callV_v (As := []) (rest := []) (W := fun u_2 => wX g X N T Rd Fr Ac Ch u_2 Ly Pa OT Ea Ga Im0 Im1 La) (rm := zrPS_findThick0) cx (fun _ hq => tPS_findThick0 hq) d_X11_thick_26 29 rfl kk_X8_findThick q_951 q_952 q_953 rfl e_PS rfl ⟨rfl, rfl⟩ ⟨Nat.le_of_ble_eq_true rfl, Nat.le_of_ble_eq_true rfl⟩ rfl rfl (Nat.le_of_ble_eq_true rfl) ⟨Nat.zero_le _, Nat.zero_le _⟩ h (fun u_2 h => ?_)
        refine z_iload_n cx d_X11_thick_29 30 rfl rfl 1 rfl ?_
        refine y_iconst cx d_X11_thick_30 31 rfl ?_
        refine y_icmp_ne cx d_X11_thick_31 34 rfl 42 (by decide) rfl (nm_eq (x := 2) (by decide) (by decide)) h (fun h => ?_) (fun h => ?_)
        · refine z_aload_n cx d_X11_thick_42 43 rfl rfl 0 rfl ?_
          refine z_get cx d_X11_thick_43 46 rfl e_X rfl zX11 5 (by decide) q_437 rfl rfl ?_
          refine y_callV_i (As := []) (rest := []) (W := fun u_3 => wX g X N T Rd Fr Ac Ch u_2 Ly Pa OT Ea Ga Im0 Im1 La) (rf := fun u_3 => zI u_3) (rm := zr0) cx (fun _ hq => tPS_bestAbove hq) d_X11_thick_46 49 rfl kk_X8_bestAbove q_963 q_964 q_965 rfl e_PS rfl ⟨rfl, rfl⟩ ⟨Nat.le_of_ble_eq_true rfl, Nat.le_of_ble_eq_true rfl⟩ rfl rfl (Nat.le_of_ble_eq_true rfl) ⟨Nat.zero_le _, Nat.zero_le _⟩ h (fun u_3 h => ?_)
          refine z_aload_n cx d_X11_thick_49 50 rfl rfl 0 rfl ?_
          refine z_get cx d_X11_thick_50 53 rfl e_X rfl zX11 5 (by decide) q_437 rfl rfl ?_
          refine y_callV_i (As := []) (rest := [.int (zI u_3)]) (W := fun u_4 => wX g X N T Rd Fr Ac Ch u_2 Ly Pa OT Ea Ga Im0 Im1 La) (rf := fun u_4 => zI u_4) (rm := zr0) cx (fun _ hq => tPS_bestBelow hq) d_X11_thick_53 56 rfl kk_X8_bestBelow q_967 q_968 q_969 rfl e_PS rfl ⟨rfl, rfl⟩ ⟨Nat.le_of_ble_eq_true rfl, Nat.le_of_ble_eq_true rfl⟩ rfl rfl (Nat.le_of_ble_eq_true rfl) ⟨Nat.zero_le _, Nat.zero_le _⟩ h (fun u_4 h => ?_)
          refine z_iload_n cx d_X11_thick_56 57 rfl rfl 1 rfl ?_
          refine y_callS_i (As := [.int (zI u_3), .int (zI u_4), .int (zI a1)]) (rest := []) (W := fun u_5 => wX g X N T Rd Fr Ac Ch u_2 Ly Pa OT Ea Ga Im0 Im1 La) (rf := fun u_5 => zI u_5) (rm := zr0) cx (fun _ hq => tX_leastTerms hq) d_X11_thick_57 60 rfl kk_X11_leastTerms q_971 q_972 ⟨rfl, rfl⟩ ⟨Nat.le_of_ble_eq_true rfl, Nat.le_of_ble_eq_true rfl⟩ rfl rfl (Nat.le_of_ble_eq_true rfl) ⟨Nat.zero_le _, Nat.zero_le _⟩ h (fun u_5 h => ?_)
          subst hQ
          obtain rfl := Option.some.inj h
          exact z_iret cx d_X11_thick_60 rfl rfl
        · refine z_aload_n cx d_X11_thick_34 35 rfl rfl 0 rfl ?_
          refine z_get cx d_X11_thick_35 38 rfl e_X rfl zX11 5 (by decide) q_437 rfl rfl ?_
          refine y_callV_i (As := []) (rest := []) (W := fun u_6 => wX g X N T Rd Fr Ac Ch u_2 Ly Pa OT Ea Ga Im0 Im1 La) (rf := fun u_6 => zI u_6) (rm := zr0) cx (fun _ hq => tPS_bestSet hq) d_X11_thick_38 41 rfl kk_X8_bestSet q_959 q_960 q_961 rfl e_PS rfl ⟨rfl, rfl⟩ ⟨Nat.le_of_ble_eq_true rfl, Nat.le_of_ble_eq_true rfl⟩ rfl rfl (Nat.le_of_ble_eq_true rfl) ⟨Nat.zero_le _, Nat.zero_le _⟩ h (fun u_6 h => ?_)
          subst hQ
          obtain rfl := Option.some.inj h
          exact z_iret cx d_X11_thick_41 rfl rfl
      · refine z_sub [] rfl ?_
        exact hk_1  h
def zrX_crowded : Room := { frames := 4, cells := 0, slots := 0, locals := 93 }
set_option maxHeartbeats 4000000 in
theorem tX_crowded {l : Launch} {g : ZG} {X : ZB} {N : ZB} {T : ZB} {Rd : ZB} {Fr : ZB} {Ac : ZA} {Ch : ZB} {PS : ZB} {Ly : ZB} {Pa : ZQ} {OT : ZB} {Ea : ZB} {Ga : ZB} {Im0 : ZO} {Im1 : ZO} {La : ZB} {a1 : Int} {r : Int × ZB} (h : fX_crowded N PS a1 = some r) : zMi l yX11_crowded cX11_crowded 2 (some .int) zrX_crowded g [.ref (g.2.2 0), .int (zI a1)] (wX g X N T Rd Fr Ac Ch PS Ly Pa OT Ea Ga Im0 Im1 La) (wX g X N T Rd Fr Ac Ch r.2 Ly Pa OT Ea Ga Im0 Im1 La) (zI r.1) := by
  unfold fX_crowded at h
  refine zMi_q (own := RX11) rfl (by decide +kernel) (Nat.le_of_ble_eq_true rfl) (lv := [(0, .ref (g.2.2 0)), (1, .int (zI a1))]) rfl ⟨rfl, rfl⟩ ?_
  intro p e s m args below meth c A Q hQ cx
  refine z_iload_n cx d_X11_crowded_0 1 rfl rfl 1 rfl ?_
  refine kf2_f (P := fun (w0_1 : Int) (PS_2 : ZB) => V p l e zrX_crowded s m args below meth c A s.heap g 2 Q (wX g X N T Rd Fr Ac Ch PS_2 Ly Pa OT Ea Ga Im0 Im1 La) 0 0 [] 22 [.int (zI w0_1)]) h (fun w0_1 PS_2 h => ?_) (fun k_3 hk_3 h => ?_)
  · subst hQ
    obtain rfl := Option.some.inj h
    exact z_iret cx d_X11_crowded_22 rfl rfl
  refine kf0_f (P := V p l e zrX_crowded s m args below meth c A s.heap g 2 Q (wX g X N T Rd Fr Ac Ch PS Ly Pa OT Ea Ga Im0 Im1 La) 0 0 [] 10 []) h (fun h => ?_) (fun k_4 hk_4 h => ?_)
  · refine y_iconst cx d_X11_crowded_10 11 rfl ?_
    refine z_goto cx d_X11_crowded_11 22 (by decide) ?_
    exact hk_3 _ _ h
  refine y_if_lt cx d_X11_crowded_1 4 rfl 10 (by decide) rfl h (fun h => ?_) (fun h => ?_)
  · refine z_sub [] rfl ?_
    exact hk_4  h
  · refine z_iload_n cx d_X11_crowded_4 5 rfl rfl 1 rfl ?_
    refine y_bipush cx d_X11_crowded_5 7 rfl (by decide) ?_
    refine y_icmp_le cx d_X11_crowded_7 10 rfl 14 (by decide) rfl (nm_eq (x := 24) (by decide) (by decide)) h (fun h => ?_) (fun h => ?_)
    · refine z_aload_n cx d_X11_crowded_14 15 rfl rfl 0 rfl ?_
      refine z_get cx d_X11_crowded_15 18 rfl e_X rfl zX11 5 (by decide) q_437 rfl rfl ?_
      refine z_iload_n cx d_X11_crowded_18 19 rfl rfl 1 rfl ?_
      refine y_callV_i (As := [.int (zI a1)]) (rest := []) (W := fun u_5 => wX g X N T Rd Fr Ac Ch u_5.2 Ly Pa OT Ea Ga Im0 Im1 La) (rf := fun u_5 => zI u_5.1) (rm := zrPS_findCrowded) cx (fun _ hq => tPS_findCrowded hq) d_X11_crowded_19 22 rfl kk_X8_findCrowded q_1018 q_1019 q_1020 rfl e_PS rfl ⟨rfl, rfl⟩ ⟨Nat.le_of_ble_eq_true rfl, Nat.le_of_ble_eq_true rfl⟩ rfl rfl (Nat.le_of_ble_eq_true rfl) ⟨Nat.zero_le _, Nat.zero_le _⟩ h (fun u_5 h => ?_)
      refine z_sub [] rfl ?_
      exact hk_3 _ _ h
    · refine z_sub [] rfl ?_
      exact hk_4  h
def zrX_strength : Room := { frames := 4, cells := 0, slots := 0, locals := 111 }
set_option maxHeartbeats 4000000 in
theorem tX_strength {l : Launch} {g : ZG} {X : ZB} {N : ZB} {T : ZB} {Rd : ZB} {Fr : ZB} {Ac : ZA} {Ch : ZB} {PS : ZB} {Ly : ZB} {Pa : ZQ} {OT : ZB} {Ea : ZB} {Ga : ZB} {Im0 : ZO} {Im1 : ZO} {La : ZB} {a1 : Int} {r : Int × ZB × ZQ} (h : fX_strength N PS Pa a1 = some r) : zMi l yX11_strength cX11_strength 2 (some .int) zrX_strength g [.ref (g.2.2 0), .int (zI a1)] (wX g X N T Rd Fr Ac Ch PS Ly Pa OT Ea Ga Im0 Im1 La) (wX g X N T Rd Fr Ac Ch r.2.1 Ly r.2.2 OT Ea Ga Im0 Im1 La) (zI r.1) := by
  unfold fX_strength at h
  refine zMi_q (own := RX11) rfl (by decide +kernel) (Nat.le_of_ble_eq_true rfl) (lv := [(0, .ref (g.2.2 0)), (1, .int (zI a1))]) rfl ⟨rfl, rfl⟩ ?_
  intro p e s m args below meth c A Q hQ cx
  refine z_aload_n cx d_X11_strength_0 1 rfl rfl 0 rfl ?_
  refine z_get cx d_X11_strength_1 4 rfl e_X rfl zX11 0 (by decide) q_432 rfl rfl ?_
  refine z_get cx d_X11_strength_4 7 rfl e_N rfl zX5 4 (by decide) q_82 rfl rfl ?_
  refine y_iconst cx d_X11_strength_7 8 rfl ?_
  refine kf0_f (P := V p l e zrX_strength s m args below meth c A s.heap g 2 Q (wX g X N T Rd Fr Ac Ch PS Ly Pa OT Ea Ga Im0 Im1 La) 0 0 [] 20 []) h (fun h => ?_) (fun k_1 hk_1 h => ?_)
  · refine y_iconst cx d_X11_strength_20 21 rfl ?_
    subst hQ
    obtain rfl := Option.some.inj h
    exact z_iret cx d_X11_strength_21 rfl rfl
  refine y_icmp_lt cx d_X11_strength_8 11 rfl 20 (by decide) rfl (nm_eq (x := 2) (by decide) (by decide)) h (fun h => ?_) (fun h => ?_)
  · refine z_sub [] rfl ?_
    exact hk_1  h
  · refine z_iload_n cx d_X11_strength_11 12 rfl rfl 1 rfl ?_
    refine y_if_lt cx d_X11_strength_12 15 rfl 20 (by decide) rfl h (fun h => ?_) (fun h => ?_)
    · refine z_sub [] rfl ?_
      exact hk_1  h
    · refine z_iload_n cx d_X11_strength_15 16 rfl rfl 1 rfl ?_
      refine y_iconst cx d_X11_strength_16 17 rfl ?_
      refine y_icmp_le cx d_X11_strength_17 20 rfl 22 (by decide) rfl (nm_eq (x := 2) (by decide) (by decide)) h (fun h => ?_) (fun h => ?_)
      · refine z_aload_n cx d_X11_strength_22 23 rfl rfl 0 rfl ?_
        refine z_get cx d_X11_strength_23 26 rfl e_X rfl zX11 7 (by decide) q_439 rfl rfl ?_
        refine y_callV_v (As := []) (rest := []) (W := fun u_2 => wX g X N T Rd Fr Ac Ch u_2.1 Ly u_2.2 OT Ea Ga Im0 Im1 La) (rm := zrPa_findWeakest) cx (fun _ hq => tPa_findWeakest hq) d_X11_strength_26 29 rfl kk_X7_findWeakest q_987 q_988 q_989 rfl e_Pa rfl ⟨rfl, rfl⟩ ⟨Nat.le_of_ble_eq_true rfl, Nat.le_of_ble_eq_true rfl⟩ rfl rfl (Nat.le_of_ble_eq_true rfl) ⟨Nat.zero_le _, Nat.zero_le _⟩ h (fun u_2 h => ?_)
        refine z_iload_n cx d_X11_strength_29 30 rfl rfl 1 rfl ?_
        refine y_iconst cx d_X11_strength_30 31 rfl ?_
        refine y_icmp_ne cx d_X11_strength_31 34 rfl 42 (by decide) rfl (nm_eq (x := 2) (by decide) (by decide)) h (fun h => ?_) (fun h => ?_)
        · refine z_aload_n cx d_X11_strength_42 43 rfl rfl 0 rfl ?_
          refine z_get cx d_X11_strength_43 46 rfl e_X rfl zX11 7 (by decide) q_439 rfl rfl ?_
          refine y_callV_i (As := []) (rest := []) (W := fun u_3 => wX g X N T Rd Fr Ac Ch u_2.1 Ly u_2.2 OT Ea Ga Im0 Im1 La) (rf := fun u_3 => zI u_3) (rm := zr0) cx (fun _ hq => tPa_above hq) d_X11_strength_46 49 rfl kk_X7_above q_1010 q_1011 q_1012 rfl e_Pa rfl ⟨rfl, rfl⟩ ⟨Nat.le_of_ble_eq_true rfl, Nat.le_of_ble_eq_true rfl⟩ rfl rfl (Nat.le_of_ble_eq_true rfl) ⟨Nat.zero_le _, Nat.zero_le _⟩ h (fun u_3 h => ?_)
          refine z_aload_n cx d_X11_strength_49 50 rfl rfl 0 rfl ?_
          refine z_get cx d_X11_strength_50 53 rfl e_X rfl zX11 7 (by decide) q_439 rfl rfl ?_
          refine y_callV_i (As := []) (rest := [.int (zI u_3)]) (W := fun u_4 => wX g X N T Rd Fr Ac Ch u_2.1 Ly u_2.2 OT Ea Ga Im0 Im1 La) (rf := fun u_4 => zI u_4) (rm := zr0) cx (fun _ hq => tPa_pieces hq) d_X11_strength_53 56 rfl kk_X7_pieces q_1006 q_1007 q_1008 rfl e_Pa rfl ⟨rfl, rfl⟩ ⟨Nat.le_of_ble_eq_true rfl, Nat.le_of_ble_eq_true rfl⟩ rfl rfl (Nat.le_of_ble_eq_true rfl) ⟨Nat.zero_le _, Nat.zero_le _⟩ h (fun u_4 h => ?_)
          refine y_iconst cx d_X11_strength_56 57 rfl ?_
          refine y_isub cx d_X11_strength_57 58 rfl ?_
          refine z_iload_n cx d_X11_strength_58 59 rfl rfl 1 rfl ?_
          refine y_callS_i (As := [.int (zI u_3), .int (zI (u_4 - 1)), .int (zI a1)]) (rest := []) (W := fun u_5 => wX g X N T Rd Fr Ac Ch u_2.1 Ly u_2.2 OT Ea Ga Im0 Im1 La) (rf := fun u_5 => zI u_5) (rm := zr0) cx (fun _ hq => tX_leastTerms hq) d_X11_strength_59 62 rfl kk_X11_leastTerms q_971 q_972 ⟨rfl, rfl⟩ ⟨Nat.le_of_ble_eq_true rfl, Nat.le_of_ble_eq_true rfl⟩ rfl rfl (Nat.le_of_ble_eq_true rfl) ⟨Nat.zero_le _, Nat.zero_le _⟩ h (fun u_5 h => ?_)
          subst hQ
          obtain rfl := Option.some.inj h
          exact z_iret cx d_X11_strength_62 rfl rfl
        · refine z_aload_n cx d_X11_strength_34 35 rfl rfl 0 rfl ?_
          refine z_get cx d_X11_strength_35 38 rfl e_X rfl zX11 7 (by decide) q_439 rfl rfl ?_
          refine y_callV_i (As := []) (rest := []) (W := fun u_6 => wX g X N T Rd Fr Ac Ch u_2.1 Ly u_2.2 OT Ea Ga Im0 Im1 La) (rf := fun u_6 => zI u_6) (rm := zr0) cx (fun _ hq => tPa_pieces hq) d_X11_strength_38 41 rfl kk_X7_pieces q_1006 q_1007 q_1008 rfl e_Pa rfl ⟨rfl, rfl⟩ ⟨Nat.le_of_ble_eq_true rfl, Nat.le_of_ble_eq_true rfl⟩ rfl rfl (Nat.le_of_ble_eq_true rfl) ⟨Nat.zero_le _, Nat.zero_le _⟩ h (fun u_6 h => ?_)
          subst hQ
          obtain rfl := Option.some.inj h
          exact z_iret cx d_X11_strength_41 rfl rfl
      · refine z_sub [] rfl ?_
        exact hk_1  h
def zrX_lineN : Room := { frames := 1, cells := 0, slots := 0, locals := 21 }
set_option maxHeartbeats 4000000 in
theorem tX_lineN {l : Launch} {g : ZG} {X : ZB} {N : ZB} {T : ZB} {Rd : ZB} {Fr : ZB} {Ac : ZA} {Ch : ZB} {PS : ZB} {Ly : ZB} {Pa : ZQ} {OT : ZB} {Ea : ZB} {Ga : ZB} {Im0 : ZO} {Im1 : ZO} {La : ZB} {a1 : Int} {a2 : Int} {r : Int} (h : fX_lineN N a1 a2 = some r) : zMi l yX11_line cX11_line 3 (some .int) zrX_lineN g [.ref (g.2.2 0), .int (zI a1), .int (zI a2)] (wX g X N T Rd Fr Ac Ch PS Ly Pa OT Ea Ga Im0 Im1 La) (wX g X N T Rd Fr Ac Ch PS Ly Pa OT Ea Ga Im0 Im1 La) (zI r) := by
  unfold fX_lineN at h
  refine zMi_q (own := RX11) rfl (by decide +kernel) (Nat.le_of_ble_eq_true rfl) (lv := [(0, .ref (g.2.2 0)), (1, .int (zI a1)), (2, .int (zI a2))]) rfl ⟨rfl, rfl⟩ ?_
  intro p e s m args below meth c A Q hQ cx
  refine z_aload_n cx d_X11_line_0 1 rfl rfl 0 rfl ?_
  refine z_get cx d_X11_line_1 4 rfl e_X rfl zX11 0 (by decide) q_432 rfl rfl ?_
  refine z_iload_n cx d_X11_line_4 5 rfl rfl 1 rfl ?_
  refine y_callV_i (As := [.int (zI a1)]) (rest := []) (W := fun u_1 => wX g X N T Rd Fr Ac Ch PS Ly Pa OT Ea Ga Im0 Im1 La) (rf := fun u_1 => zI u_1) (rm := zr0) cx (fun _ hq => tN_hasLine hq) d_X11_line_5 8 rfl kk_X5_hasLine q_487 q_488 q_489 rfl e_N rfl ⟨rfl, rfl⟩ ⟨Nat.le_of_ble_eq_true rfl, Nat.le_of_ble_eq_true rfl⟩ rfl rfl (Nat.le_of_ble_eq_true rfl) ⟨Nat.zero_le _, Nat.zero_le _⟩ h (fun u_1 h => ?_)
  refine kf0_f (P := V p l e zrX_lineN s m args below meth c A s.heap g 3 Q (wX g X N T Rd Fr Ac Ch PS Ly Pa OT Ea Ga Im0 Im1 La) 0 0 [] 20 []) h (fun h => ?_) (fun k_2 hk_2 h => ?_)
  · exact nomatch h
  refine y_if_eq cx d_X11_line_8 11 rfl 20 (by decide) rfl h (fun h => ?_) (fun h => ?_)
  · refine z_sub [] rfl ?_
    exact hk_2  h
  · refine z_iload_n cx d_X11_line_11 12 rfl rfl 2 rfl ?_
    refine y_if_lt cx d_X11_line_12 15 rfl 20 (by decide) rfl h (fun h => ?_) (fun h => ?_)
    · refine z_sub [] rfl ?_
      exact hk_2  h
    · refine z_iload_n cx d_X11_line_15 16 rfl rfl 2 rfl ?_
      refine y_iconst cx d_X11_line_16 17 rfl ?_
      refine y_icmp_le cx d_X11_line_17 20 rfl 30 (by decide) rfl (nm_eq (x := 4) (by decide) (by decide)) h (fun h => ?_) (fun h => ?_)
      · refine z_iload_n cx d_X11_line_30 31 rfl rfl 2 rfl ?_
        refine ite_c h (fun c_3 h => ?_) (fun c_3 h => ?_)
        · refine y_swIn cx d_X11_line_31 0 (Eq.trans rfl c_3) 60 (by decide) (by decide) rfl (by decide) ?_
          refine z_aload_n cx d_X11_line_60 61 rfl rfl 0 rfl ?_
          refine z_get cx d_X11_line_61 64 rfl e_X rfl zX11 0 (by decide) q_432 rfl rfl ?_
          refine z_get cx d_X11_line_64 67 rfl e_N rfl zX5 0 (by decide) q_67 rfl rfl ?_
          refine z_iload_n cx d_X11_line_67 68 rfl rfl 1 rfl ?_
          refine y_ialdx cx d_X11_line_68 69 rfl e_N_first (by decide) h (fun x_4 h => ?_)
          subst hQ
          obtain rfl := Option.some.inj h
          exact z_iret cx d_X11_line_69 rfl rfl
        · refine ite_c h (fun c_5 h => ?_) (fun c_5 h => ?_)
          · refine y_swIn cx d_X11_line_31 1 (Eq.trans rfl c_5) 70 (by decide) (by decide) rfl (by decide) ?_
            refine z_aload_n cx d_X11_line_70 71 rfl rfl 0 rfl ?_
            refine z_get cx d_X11_line_71 74 rfl e_X rfl zX11 0 (by decide) q_432 rfl rfl ?_
            refine z_get cx d_X11_line_74 77 rfl e_N rfl zX5 1 (by decide) q_71 rfl rfl ?_
            refine z_iload_n cx d_X11_line_77 78 rfl rfl 1 rfl ?_
            refine y_ialdx cx d_X11_line_78 79 rfl e_N_second (by decide) h (fun x_6 h => ?_)
            subst hQ
            obtain rfl := Option.some.inj h
            exact z_iret cx d_X11_line_79 rfl rfl
          · refine ite_c h (fun c_7 h => ?_) (fun c_7 h => ?_)
            · refine y_swIn cx d_X11_line_31 2 (Eq.trans rfl c_7) 80 (by decide) (by decide) rfl (by decide) ?_
              refine z_aload_n cx d_X11_line_80 81 rfl rfl 0 rfl ?_
              refine z_get cx d_X11_line_81 84 rfl e_X rfl zX11 0 (by decide) q_432 rfl rfl ?_
              refine z_get cx d_X11_line_84 87 rfl e_N rfl zX5 2 (by decide) q_73 rfl rfl ?_
              refine z_iload_n cx d_X11_line_87 88 rfl rfl 1 rfl ?_
              refine y_ialdx cx d_X11_line_88 89 rfl e_N_weight (by decide) h (fun x_8 h => ?_)
              subst hQ
              obtain rfl := Option.some.inj h
              exact z_iret cx d_X11_line_89 rfl rfl
            · refine ite_c h (fun c_9 h => ?_) (fun c_9 h => ?_)
              · refine y_swIn cx d_X11_line_31 3 (Eq.trans rfl c_9) 90 (by decide) (by decide) rfl (by decide) ?_
                refine z_aload_n cx d_X11_line_90 91 rfl rfl 0 rfl ?_
                refine z_get cx d_X11_line_91 94 rfl e_X rfl zX11 0 (by decide) q_432 rfl rfl ?_
                refine z_get cx d_X11_line_94 97 rfl e_N rfl zX5 3 (by decide) q_76 rfl rfl ?_
                refine z_iload_n cx d_X11_line_97 98 rfl rfl 1 rfl ?_
                refine y_ialdx cx d_X11_line_98 99 rfl e_N_home (by decide) h (fun x_10 h => ?_)
                subst hQ
                obtain rfl := Option.some.inj h
                exact z_iret cx d_X11_line_99 rfl rfl
              · refine y_swOut cx d_X11_line_31 (by omega) 100 (by decide) ?_
                refine z_aload_n cx d_X11_line_100 101 rfl rfl 0 rfl ?_
                refine z_get cx d_X11_line_101 104 rfl e_X rfl zX11 0 (by decide) q_432 rfl rfl ?_
                refine z_iload_n cx d_X11_line_104 105 rfl rfl 1 rfl ?_
                refine y_callV_i (As := [.int (zI a1)]) (rest := []) (W := fun u_11 => wX g X N T Rd Fr Ac Ch PS Ly Pa OT Ea Ga Im0 Im1 La) (rf := fun u_11 => zI u_11) (rm := zr0) cx (fun _ hq => tN_isSound hq) d_X11_line_105 108 rfl kk_X5_isSound q_495 q_496 q_497 rfl e_N rfl ⟨rfl, rfl⟩ ⟨Nat.le_of_ble_eq_true rfl, Nat.le_of_ble_eq_true rfl⟩ rfl rfl (Nat.le_of_ble_eq_true rfl) ⟨Nat.zero_le _, Nat.zero_le _⟩ h (fun u_11 h => ?_)
                refine kf1_f (P := fun (w0_12 : Int) => V p l e zrX_lineN s m args below meth c A s.heap g 3 Q (wX g X N T Rd Fr Ac Ch PS Ly Pa OT Ea Ga Im0 Im1 La) 0 0 [] 116 [.int (zI w0_12)]) h (fun w0_12 h => ?_) (fun k_13 hk_13 h => ?_)
                · subst hQ
                  obtain rfl := Option.some.inj h
                  exact z_iret cx d_X11_line_116 rfl rfl
                refine y_if_eq cx d_X11_line_108 111 rfl 115 (by decide) rfl h (fun h => ?_) (fun h => ?_)
                · refine y_iconst cx d_X11_line_115 116 rfl ?_
                  refine z_sub [] rfl ?_
                  exact hk_13 _ h
                · refine y_iconst cx d_X11_line_111 112 rfl ?_
                  refine z_goto cx d_X11_line_112 116 (by decide) ?_
                  refine z_sub [] rfl ?_
                  exact hk_13 _ h
      · refine z_sub [] rfl ?_
        exact hk_2  h
