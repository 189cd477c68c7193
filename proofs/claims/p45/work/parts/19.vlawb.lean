-- needs: 18.xzlaw
set_option maxHeartbeats 40000000 in
theorem tL_bits {l : Launch} {g : ZG} {w : va_W} {a1 : Int} {r : Int} (h : fL_bits a1 = some r) : zMi l yL_bits cL_bits 3 (some .int) zr0 g [.int (zI a1)] (w) (w) (zI r) := by
  unfold fL_bits at h
  refine zMi_q (own := RL) rfl (by decide +kernel) (Nat.le_of_ble_eq_true rfl) (lv := [(0, .int (zI a1))]) rfl ⟨rfl, rfl⟩ ?_
  intro p e s m args below meth c A Q hQ cx
  refine y_iconst cx d_L_bits_0 1 rfl ?_
  refine y_istore_n cx d_L_bits_1 2 rfl rfl (by decide) (lv' := [(1, .int (zI 0)), (0, .int (zI a1))]) rfl ?_
  refine y_iconst cx d_L_bits_2 3 rfl ?_
  refine y_istore_n cx d_L_bits_3 4 rfl rfl (by decide) (lv' := [(2, .int (zI 0)), (1, .int (zI 0)), (0, .int (zI a1))]) rfl ?_
  refine z_sub [2, 1, 0] rfl ?_
  refine lop2_f (P := fun (v1_1 : Int) (v2_2 : Int) => V p l e zr0 s m args below meth c A s.heap g 3 Q (w) 0 0 [(0, .int (zI a1)), (1, .int (zI v1_1)), (2, .int (zI v2_2))] 4 []) (fun rec_3 hrec_3 v1_1 v2_2 h => ?_) _ _ _ h
  refine z_iload_n cx d_L_bits_4 5 rfl rfl 2 rfl ?_
  refine y_bipush cx d_L_bits_5 7 rfl (by decide) ?_
  refine y_icmp_ge cx d_L_bits_7 10 rfl 24 (by decide) rfl (nm_eq (x := 24) (by decide) (by decide)) h (fun h => ?_) (fun h => ?_)
  · refine z_iload_n cx d_L_bits_24 25 rfl rfl 1 rfl ?_
    subst hQ
    obtain rfl := Option.some.inj h
    exact z_iret cx d_L_bits_25 rfl rfl
  · refine z_iload_n cx d_L_bits_10 11 rfl rfl 1 rfl ?_
    refine z_iload_n cx d_L_bits_11 12 rfl rfl 0 rfl ?_
    refine z_iload_n cx d_L_bits_12 13 rfl rfl 2 rfl ?_
    refine y_ishr cx d_L_bits_13 14 rfl ?_
    refine y_iconst cx d_L_bits_14 15 rfl ?_
    refine y_iand cx d_L_bits_15 16 rfl ?_
    refine y_iadd cx d_L_bits_16 17 rfl ?_
    refine y_istore_n_b cx d_L_bits_17 18 rfl rfl (by decide) (fun y => [(1, .int (zI y)), (0, .int (zI a1)), (2, .int (zI v2_2))]) (fun y => rfl) h (fun v1_4 h => ?_)
    refine y_iinc cx 2 d_L_bits_18 21 rfl rfl (by decide) (lv' := [(2, .int (zI (v2_2 + 1))), (1, .int (zI v1_4)), (0, .int (zI a1))]) rfl ?_
    refine z_goto cx d_L_bits_21 4 (by decide) ?_
    refine z_sub [2, 1, 0] rfl ?_
    exact hrec_3 _ _ h
set_option maxHeartbeats 40000000 in
theorem tL_has {l : Launch} {g : ZG} {w : va_W} {a1 : Int} {a2 : Int} {r : Int} (h : fL_has a1 a2 = some r) : zMi l yL_has cL_has 2 (some .boolean) zr0 g [.int (zI a1), .int (zI a2)] (w) (w) (zI r) := by
  unfold fL_has at h
  refine zMi_q (own := RL) rfl (by decide +kernel) (Nat.le_of_ble_eq_true rfl) (lv := [(0, .int (zI a1)), (1, .int (zI a2))]) rfl ⟨rfl, rfl⟩ ?_
  intro p e s m args below meth c A Q hQ cx
  refine z_iload_n cx d_L_has_0 1 rfl rfl 0 rfl ?_
  refine z_iload_n cx d_L_has_1 2 rfl rfl 1 rfl ?_
  refine y_ishr cx d_L_has_2 3 rfl ?_
  refine y_iconst cx d_L_has_3 4 rfl ?_
  refine y_iand cx d_L_has_4 5 rfl ?_
  refine y_iconst cx d_L_has_5 6 rfl ?_
  refine kf1_f (P := fun (w0_1 : Int) => V p l e zr0 s m args below meth c A s.heap g 2 Q (w) 0 0 [] 14 [.int (zI w0_1)]) h (fun w0_1 h => ?_) (fun k_2 hk_2 h => ?_)
  · obtain ⟨hz, h⟩ := zo_i h
    subst hQ
    obtain rfl := Option.some.inj h
    exact z_zret cx d_L_has_14 (zb01 hz) rfl rfl
  refine y_icmp_ne cx d_L_has_6 9 rfl 13 (by decide) (nm_zand _ _) (nm_eq (x := 1) (by decide) (by decide)) h (fun h => ?_) (fun h => ?_)
  · refine y_iconst cx d_L_has_13 14 rfl ?_
    refine z_sub [] rfl ?_
    exact hk_2 _ h
  · refine y_iconst cx d_L_has_9 10 rfl ?_
    refine z_goto cx d_L_has_10 14 (by decide) ?_
    refine z_sub [] rfl ?_
    exact hk_2 _ h
set_option maxHeartbeats 40000000 in
theorem tL_ends {l : Launch} {g : ZG} {X : ZB} {N : ZB} {T : ZB} {Rd : ZB} {Fr : ZB} {Ac : ZA} {Ch : ZB} {PS : ZB} {Ly : ZB} {Pa : ZQ} {OT : ZB} {Ea : ZB} {Ga : ZB} {Im0 : ZO} {Im1 : ZO} {La : ZB} {a2 : Int} {r : Int} (h : fL_ends La a2 = some r) : zMi l yL_ends cL_ends 2 (some .int) zr0 g [.ref (g.2.2 92), .int (zI a2)] (wX g X N T Rd Fr Ac Ch PS Ly Pa OT Ea Ga Im0 Im1 La) (wX g X N T Rd Fr Ac Ch PS Ly Pa OT Ea Ga Im0 Im1 La) (zI r) := by
  unfold fL_ends at h
  refine zMi_q (own := RL) rfl (by decide +kernel) (Nat.le_of_ble_eq_true rfl) (lv := [(0, .ref (g.2.2 92)), (1, .int (zI a2))]) rfl ⟨rfl, rfl⟩ ?_
  intro p e s m args below meth c A Q hQ cx
  refine y_iconst cx d_L_ends_0 1 rfl ?_
  refine z_aload_n cx d_L_ends_1 2 rfl rfl 0 rfl ?_
  refine y_iconst cx d_L_ends_2 3 rfl ?_
  refine z_iload_n cx d_L_ends_3 4 rfl rfl 1 rfl ?_
  refine y_iadd cx d_L_ends_4 5 rfl ?_
  refine y_ialdx cx d_L_ends_5 6 rfl e_La_v (by decide) h (fun x_1 h => ?_)
  refine y_ishl cx d_L_ends_6 7 rfl ?_
  refine y_iconst cx d_L_ends_7 8 rfl ?_
  refine z_aload_n cx d_L_ends_8 9 rfl rfl 0 rfl ?_
  refine y_bipush cx d_L_ends_9 11 rfl (by decide) ?_
  refine z_iload_n cx d_L_ends_11 12 rfl rfl 1 rfl ?_
  refine y_iadd cx d_L_ends_12 13 rfl ?_
  refine y_ialdx cx d_L_ends_13 14 rfl e_La_v (by decide) h (fun x_2 h => ?_)
  refine y_ishl cx d_L_ends_14 15 rfl ?_
  refine y_ior cx d_L_ends_15 16 rfl ?_
  subst hQ
  obtain rfl := Option.some.inj h
  exact z_iret cx d_L_ends_16 rfl rfl
def zrL_inner : Room := { frames := 1, cells := 0, slots := 0, locals := 21 }
set_option maxHeartbeats 40000000 in
theorem tL_inner {l : Launch} {g : ZG} {X : ZB} {N : ZB} {T : ZB} {Rd : ZB} {Fr : ZB} {Ac : ZA} {Ch : ZB} {PS : ZB} {Ly : ZB} {Pa : ZQ} {OT : ZB} {Ea : ZB} {Ga : ZB} {Im0 : ZO} {Im1 : ZO} {La : ZB} {a2 : Int} {a3 : Int} {r : Int} (h : fL_inner La a2 a3 = some r) : zMi l yL_inner cL_inner 5 (some .int) zrL_inner g [.ref (g.2.2 92), .int (zI a2), .int (zI a3)] (wX g X N T Rd Fr Ac Ch PS Ly Pa OT Ea Ga Im0 Im1 La) (wX g X N T Rd Fr Ac Ch PS Ly Pa OT Ea Ga Im0 Im1 La) (zI r) := by
  unfold fL_inner at h
  refine zMi_q (own := RL) rfl (by decide +kernel) (Nat.le_of_ble_eq_true rfl) (lv := [(0, .ref (g.2.2 92)), (1, .int (zI a2)), (2, .int (zI a3))]) rfl ⟨rfl, rfl⟩ ?_
  intro p e s m args below meth c A Q hQ cx
  refine y_iconst cx d_L_inner_0 1 rfl ?_
  refine y_istore_n cx d_L_inner_1 2 rfl rfl (by decide) (lv' := [(3, .int (zI 0)), (0, .ref (g.2.2 92)), (1, .int (zI a2)), (2, .int (zI a3))]) rfl ?_
  refine y_iconst cx d_L_inner_2 3 rfl ?_
  refine y_istore cx d_L_inner_3 5 rfl (by decide) (lv' := [(4, .int (zI 0)), (3, .int (zI 0)), (0, .ref (g.2.2 92)), (1, .int (zI a2)), (2, .int (zI a3))]) rfl ?_
  refine z_sub [2, 3, 4, 1, 0] rfl ?_
  refine lop2_f (P := fun (v3_1 : Int) (v4_2 : Int) => V p l e zrL_inner s m args below meth c A s.heap g 5 Q (wX g X N T Rd Fr Ac Ch PS Ly Pa OT Ea Ga Im0 Im1 La) 0 0 [(0, .ref (g.2.2 92)), (1, .int (zI a2)), (2, .int (zI a3)), (3, .int (zI v3_1)), (4, .int (zI v4_2))] 5 []) (fun rec_3 hrec_3 v3_1 v4_2 h => ?_) _ _ _ h
  refine z_iload cx d_L_inner_5 7 rfl 4 rfl ?_
  refine z_aload_n cx d_L_inner_7 8 rfl rfl 0 rfl ?_
  refine y_iconst cx d_L_inner_8 9 rfl ?_
  refine y_ialdx cx d_L_inner_9 10 rfl e_La_v (by decide) h (fun x_4 h => ?_)
  refine y_icmp_ge cx d_L_inner_10 13 rfl 44 (by decide) rfl rfl h (fun h => ?_) (fun h => ?_)
  · refine z_iload_n cx d_L_inner_44 45 rfl rfl 3 rfl ?_
    subst hQ
    obtain rfl := Option.some.inj h
    exact z_iret cx d_L_inner_45 rfl rfl
  · refine z_iload_n cx d_L_inner_13 14 rfl rfl 2 rfl ?_
    refine z_iload cx d_L_inner_14 16 rfl 4 rfl ?_
    refine y_callS_i (As := [.int (zI a3), .int (zI v4_2)]) (rest := []) (W := fun u_5 => wX g X N T Rd Fr Ac Ch PS Ly Pa OT Ea Ga Im0 Im1 La) (rf := fun u_5 => zI u_5) (rm := zr0) cx (fun _ hq => tL_has hq) d_L_inner_16 19 rfl kk_L_has q_864 q_865 ⟨rfl, rfl⟩ ⟨Nat.le_of_ble_eq_true rfl, Nat.le_of_ble_eq_true rfl⟩ rfl rfl (Nat.le_of_ble_eq_true rfl) ⟨Nat.zero_le _, Nat.zero_le _⟩ h (fun u_5 h => ?_)
    refine kf1_f (P := fun (v3_6 : Int) => V p l e zrL_inner s m args below meth c A s.heap g 5 Q (wX g X N T Rd Fr Ac Ch PS Ly Pa OT Ea Ga Im0 Im1 La) 0 0 [(0, .ref (g.2.2 92)), (1, .int (zI a2)), (2, .int (zI a3)), (3, .int (zI v3_6)), (4, .int (zI v4_2))] 38 []) h (fun v3_6 h => ?_) (fun k_7 hk_7 h => ?_)
    · refine y_iinc cx 4 d_L_inner_38 41 rfl rfl (by decide) (lv' := [(4, .int (zI (v4_2 + 1))), (0, .ref (g.2.2 92)), (1, .int (zI a2)), (2, .int (zI a3)), (3, .int (zI v3_6))]) rfl ?_
      refine z_goto cx d_L_inner_41 5 (by decide) ?_
      refine z_sub [1, 2, 3, 4, 0] rfl ?_
      exact hrec_3 _ _ h
    refine y_if_eq cx d_L_inner_19 22 rfl 38 (by decide) rfl h (fun h => ?_) (fun h => ?_)
    · exact hk_7 _ h
    · refine z_aload_n cx d_L_inner_22 23 rfl rfl 0 rfl ?_
      refine z_iload cx d_L_inner_23 25 rfl 4 rfl ?_
      refine y_callS_i (As := [.ref (g.2.2 92), .int (zI v4_2)]) (rest := []) (W := fun u_8 => wX g X N T Rd Fr Ac Ch PS Ly Pa OT Ea Ga Im0 Im1 La) (rf := fun u_8 => zI u_8) (rm := zr0) cx (fun _ hq => tL_ends hq) d_L_inner_25 28 rfl kk_L_ends q_876 q_877 ⟨rfl, rfl⟩ ⟨Nat.le_of_ble_eq_true rfl, Nat.le_of_ble_eq_true rfl⟩ rfl rfl (Nat.le_of_ble_eq_true rfl) ⟨Nat.zero_le _, Nat.zero_le _⟩ h (fun u_8 h => ?_)
      refine z_iload_n cx d_L_inner_28 29 rfl rfl 1 rfl ?_
      refine y_iconst cx d_L_inner_29 30 rfl ?_
      refine y_ixor cx d_L_inner_30 31 rfl ?_
      refine y_iand cx d_L_inner_31 32 rfl ?_
      refine y_if_ne cx d_L_inner_32 35 rfl 38 (by decide) (nm_zand _ _) h (fun h => ?_) (fun h => ?_)
      · exact hk_7 _ h
      · refine y_iinc cx 3 d_L_inner_35 38 rfl rfl (by decide) (lv' := [(3, .int (zI (v3_1 + 1))), (0, .ref (g.2.2 92)), (1, .int (zI a2)), (2, .int (zI a3)), (4, .int (zI v4_2))]) rfl ?_
        refine z_sub [1, 2, 3, 0, 4] rfl ?_
        exact hk_7 _ h
def zrL_joined : Room := { frames := 1, cells := 0, slots := 0, locals := 21 }
set_option maxHeartbeats 40000000 in
theorem tL_joined {l : Launch} {g : ZG} {X : ZB} {N : ZB} {T : ZB} {Rd : ZB} {Fr : ZB} {Ac : ZA} {Ch : ZB} {PS : ZB} {Ly : ZB} {Pa : ZQ} {OT : ZB} {Ea : ZB} {Ga : ZB} {Im0 : ZO} {Im1 : ZO} {La : ZB} {a2 : Int} {a3 : Int} {r : Int} (h : fL_joined La a2 a3 = some r) : zMi l yL_joined cL_joined 6 (some .int) zrL_joined g [.ref (g.2.2 92), .int (zI a2), .int (zI a3)] (wX g X N T Rd Fr Ac Ch PS Ly Pa OT Ea Ga Im0 Im1 La) (wX g X N T Rd Fr Ac Ch PS Ly Pa OT Ea Ga Im0 Im1 La) (zI r) := by
  unfold fL_joined at h
  refine zMi_q (own := RL) rfl (by decide +kernel) (Nat.le_of_ble_eq_true rfl) (lv := [(0, .ref (g.2.2 92)), (1, .int (zI a2)), (2, .int (zI a3))]) rfl ⟨rfl, rfl⟩ ?_
  intro p e s m args below meth c A Q hQ cx
  refine y_iconst cx d_L_joined_0 1 rfl ?_
  refine z_iload_n cx d_L_joined_1 2 rfl rfl 1 rfl ?_
  refine y_ishl cx d_L_joined_2 3 rfl ?_
  refine y_istore_n_b cx d_L_joined_3 4 rfl rfl (by decide) (fun y => [(3, .int (zI y)), (0, .ref (g.2.2 92)), (1, .int (zI a2)), (2, .int (zI a3))]) (fun y => rfl) h (fun v3_1 h => ?_)
  refine y_iconst cx d_L_joined_4 5 rfl ?_
  refine y_istore cx d_L_joined_5 7 rfl (by decide) (lv' := [(4, .int (zI 0)), (3, .int (zI v3_1)), (0, .ref (g.2.2 92)), (1, .int (zI a2)), (2, .int (zI a3))]) rfl ?_
  refine z_sub [2, 4, 1, 0] rfl ?_
  refine lop2_f (P := fun (v3_2 : Int) (v4_3 : Int) => V p l e zrL_joined s m args below meth c A s.heap g 6 Q (wX g X N T Rd Fr Ac Ch PS Ly Pa OT Ea Ga Im0 Im1 La) 0 0 [(0, .ref (g.2.2 92)), (2, .int (zI a3)), (3, .int (zI v3_2)), (4, .int (zI v4_3))] 7 []) (fun rec_4 hrec_4 v3_2 v4_3 h => ?_) _ _ _ h
  refine z_iload cx d_L_joined_7 9 rfl 3 rfl ?_
  refine z_aload_n cx d_L_joined_9 10 rfl rfl 0 rfl ?_
  refine y_iconst cx d_L_joined_10 11 rfl ?_
  refine y_ialdx cx d_L_joined_11 12 rfl e_La_v (by decide) h (fun x_5 h => ?_)
  refine y_icmp_ge cx d_L_joined_12 15 rfl 67 (by decide) rfl rfl h (fun h => ?_) (fun h => ?_)
  · refine z_iload_n cx d_L_joined_67 68 rfl rfl 2 rfl ?_
    subst hQ
    obtain rfl := Option.some.inj h
    exact z_iret cx d_L_joined_68 rfl rfl
  · refine y_iconst cx d_L_joined_15 16 rfl ?_
    refine y_istore cx d_L_joined_16 18 rfl (by decide) (lv' := [(5, .int (zI 0)), (0, .ref (g.2.2 92)), (2, .int (zI a3)), (3, .int (zI v3_2)), (4, .int (zI v4_3))]) rfl ?_
    refine z_sub [1, 2, 3, 4, 0] rfl ?_
    refine lop2_f (P := fun (v3_6 : Int) (v5_7 : Int) => V p l e zrL_joined s m args below meth c A s.heap g 6 Q (wX g X N T Rd Fr Ac Ch PS Ly Pa OT Ea Ga Im0 Im1 La) 0 0 [(0, .ref (g.2.2 92)), (2, .int (zI a3)), (3, .int (zI v3_6)), (4, .int (zI v4_3)), (5, .int (zI v5_7))] 18 []) (fun rec_8 hrec_8 v3_6 v5_7 h => ?_) _ _ _ h
    refine z_iload cx d_L_joined_18 20 rfl 4 rfl ?_
    refine z_aload_n cx d_L_joined_20 21 rfl rfl 0 rfl ?_
    refine y_iconst cx d_L_joined_21 22 rfl ?_
    refine y_ialdx cx d_L_joined_22 23 rfl e_La_v (by decide) h (fun x_9 h => ?_)
    refine y_icmp_ge cx d_L_joined_23 26 rfl 61 (by decide) rfl rfl h (fun h => ?_) (fun h => ?_)
    · refine y_iinc cx 3 d_L_joined_61 64 rfl rfl (by decide) (lv' := [(4, .int (zI (v4_3 + 1))), (0, .ref (g.2.2 92)), (2, .int (zI a3)), (3, .int (zI v3_6)), (5, .int (zI v5_7))]) rfl ?_
      refine z_goto cx d_L_joined_64 7 (by decide) ?_
      refine z_sub [1, 2, 3, 0] rfl ?_
      exact hrec_4 _ _ h
    · refine z_iload_n cx d_L_joined_26 27 rfl rfl 1 rfl ?_
      refine z_iload cx d_L_joined_27 29 rfl 4 rfl ?_
      refine y_callS_i (As := [.int (zI a3), .int (zI v5_7)]) (rest := []) (W := fun u_10 => wX g X N T Rd Fr Ac Ch PS Ly Pa OT Ea Ga Im0 Im1 La) (rf := fun u_10 => zI u_10) (rm := zr0) cx (fun _ hq => tL_has hq) d_L_joined_29 32 rfl kk_L_has q_864 q_865 ⟨rfl, rfl⟩ ⟨Nat.le_of_ble_eq_true rfl, Nat.le_of_ble_eq_true rfl⟩ rfl rfl (Nat.le_of_ble_eq_true rfl) ⟨Nat.zero_le _, Nat.zero_le _⟩ h (fun u_10 h => ?_)
      refine kf1_f (P := fun (v3_11 : Int) => V p l e zrL_joined s m args below meth c A s.heap g 6 Q (wX g X N T Rd Fr Ac Ch PS Ly Pa OT Ea Ga Im0 Im1 La) 0 0 [(0, .ref (g.2.2 92)), (2, .int (zI a3)), (3, .int (zI v3_11)), (4, .int (zI v4_3)), (5, .int (zI v5_7))] 55 []) h (fun v3_11 h => ?_) (fun k_12 hk_12 h => ?_)
      · refine y_iinc cx 4 d_L_joined_55 58 rfl rfl (by decide) (lv' := [(5, .int (zI (v5_7 + 1))), (0, .ref (g.2.2 92)), (2, .int (zI a3)), (3, .int (zI v3_11)), (4, .int (zI v4_3))]) rfl ?_
        refine z_goto cx d_L_joined_58 18 (by decide) ?_
        refine z_sub [1, 2, 3, 4, 0] rfl ?_
        exact hrec_8 _ _ h
      refine y_if_eq cx d_L_joined_32 35 rfl 55 (by decide) rfl h (fun h => ?_) (fun h => ?_)
      · exact hk_12 _ h
      · refine z_aload_n cx d_L_joined_35 36 rfl rfl 0 rfl ?_
        refine z_iload cx d_L_joined_36 38 rfl 4 rfl ?_
        refine y_callS_i (As := [.ref (g.2.2 92), .int (zI v5_7)]) (rest := []) (W := fun u_13 => wX g X N T Rd Fr Ac Ch PS Ly Pa OT Ea Ga Im0 Im1 La) (rf := fun u_13 => zI u_13) (rm := zr0) cx (fun _ hq => tL_ends hq) d_L_joined_38 41 rfl kk_L_ends q_876 q_877 ⟨rfl, rfl⟩ ⟨Nat.le_of_ble_eq_true rfl, Nat.le_of_ble_eq_true rfl⟩ rfl rfl (Nat.le_of_ble_eq_true rfl) ⟨Nat.zero_le _, Nat.zero_le _⟩ h (fun u_13 h => ?_)
        refine z_iload_n cx d_L_joined_41 42 rfl rfl 2 rfl ?_
        refine y_iand cx d_L_joined_42 43 rfl ?_
        refine y_if_eq cx d_L_joined_43 46 rfl 55 (by decide) (nm_zand _ _) h (fun h => ?_) (fun h => ?_)
        · exact hk_12 _ h
        · refine z_iload_n cx d_L_joined_46 47 rfl rfl 2 rfl ?_
          refine z_aload_n cx d_L_joined_47 48 rfl rfl 0 rfl ?_
          refine z_iload cx d_L_joined_48 50 rfl 4 rfl ?_
          refine y_callS_i (As := [.ref (g.2.2 92), .int (zI v5_7)]) (rest := [.int (zI v3_6)]) (W := fun u_14 => wX g X N T Rd Fr Ac Ch PS Ly Pa OT Ea Ga Im0 Im1 La) (rf := fun u_14 => zI u_14) (rm := zr0) cx (fun _ hq => tL_ends hq) d_L_joined_50 53 rfl kk_L_ends q_876 q_877 ⟨rfl, rfl⟩ ⟨Nat.le_of_ble_eq_true rfl, Nat.le_of_ble_eq_true rfl⟩ rfl rfl (Nat.le_of_ble_eq_true rfl) ⟨Nat.zero_le _, Nat.zero_le _⟩ h (fun u_14 h => ?_)
          refine y_ior cx d_L_joined_53 54 rfl ?_
          refine y_istore_n_b cx d_L_joined_54 55 rfl rfl (by decide) (fun y => [(3, .int (zI y)), (0, .ref (g.2.2 92)), (2, .int (zI a3)), (4, .int (zI v4_3)), (5, .int (zI v5_7))]) (fun y => rfl) h (fun v3_15 h => ?_)
          refine z_sub [1, 2, 0, 3, 4] rfl ?_
          exact hk_12 _ h
def zrL_pieces : Room := { frames := 2, cells := 0, slots := 0, locals := 46 }
set_option maxHeartbeats 40000000 in
theorem tL_pieces {l : Launch} {g : ZG} {X : ZB} {N : ZB} {T : ZB} {Rd : ZB} {Fr : ZB} {Ac : ZA} {Ch : ZB} {PS : ZB} {Ly : ZB} {Pa : ZQ} {OT : ZB} {Ea : ZB} {Ga : ZB} {Im0 : ZO} {Im1 : ZO} {La : ZB} {a2 : Int} {r : Int} (h : fL_pieces La a2 = some r) : zMi l yL_pieces cL_pieces 5 (some .int) zrL_pieces g [.ref (g.2.2 92), .int (zI a2)] (wX g X N T Rd Fr Ac Ch PS Ly Pa OT Ea Ga Im0 Im1 La) (wX g X N T Rd Fr Ac Ch PS Ly Pa OT Ea Ga Im0 Im1 La) (zI r) := by
  unfold fL_pieces at h
  refine zMi_q (own := RL) rfl (by decide +kernel) (Nat.le_of_ble_eq_true rfl) (lv := [(0, .ref (g.2.2 92)), (1, .int (zI a2))]) rfl ⟨rfl, rfl⟩ ?_
  intro p e s m args below meth c A Q hQ cx
  refine y_iconst cx d_L_pieces_0 1 rfl ?_
  refine z_aload_n cx d_L_pieces_1 2 rfl rfl 0 rfl ?_
  refine y_iconst cx d_L_pieces_2 3 rfl ?_
  refine y_ialdx cx d_L_pieces_3 4 rfl e_La_v (by decide) h (fun x_1 h => ?_)
  refine y_ishl cx d_L_pieces_4 5 rfl ?_
  refine y_iconst cx d_L_pieces_5 6 rfl ?_
  refine y_isub cx d_L_pieces_6 7 rfl ?_
  refine y_istore_n_b cx d_L_pieces_7 8 rfl rfl (by decide) (fun y => [(2, .int (zI y)), (0, .ref (g.2.2 92)), (1, .int (zI a2))]) (fun y => rfl) h (fun v2_2 h => ?_)
  refine y_iconst cx d_L_pieces_8 9 rfl ?_
  refine y_istore_n cx d_L_pieces_9 10 rfl rfl (by decide) (lv' := [(3, .int (zI 0)), (2, .int (zI v2_2)), (0, .ref (g.2.2 92)), (1, .int (zI a2))]) rfl ?_
  refine y_iconst cx d_L_pieces_10 11 rfl ?_
  refine y_istore cx d_L_pieces_11 13 rfl (by decide) (lv' := [(4, .int (zI 0)), (3, .int (zI 0)), (2, .int (zI v2_2)), (0, .ref (g.2.2 92)), (1, .int (zI a2))]) rfl ?_
  refine z_sub [3, 4, 2, 1, 0] rfl ?_
  refine lop3_f (P := fun (v2_3 : Int) (v3_4 : Int) (v4_5 : Int) => V p l e zrL_pieces s m args below meth c A s.heap g 5 Q (wX g X N T Rd Fr Ac Ch PS Ly Pa OT Ea Ga Im0 Im1 La) 0 0 [(0, .ref (g.2.2 92)), (1, .int (zI a2)), (2, .int (zI v2_3)), (3, .int (zI v3_4)), (4, .int (zI v4_5))] 13 []) (fun rec_6 hrec_6 v2_3 v3_4 v4_5 h => ?_) _ _ _ _ h
  refine z_iload cx d_L_pieces_13 15 rfl 4 rfl ?_
  refine z_aload_n cx d_L_pieces_15 16 rfl rfl 0 rfl ?_
  refine y_iconst cx d_L_pieces_16 17 rfl ?_
  refine y_ialdx cx d_L_pieces_17 18 rfl e_La_v (by decide) h (fun x_7 h => ?_)
  refine y_icmp_ge cx d_L_pieces_18 21 rfl 54 (by decide) rfl rfl h (fun h => ?_) (fun h => ?_)
  · refine z_iload_n cx d_L_pieces_54 55 rfl rfl 3 rfl ?_
    subst hQ
    obtain rfl := Option.some.inj h
    exact z_iret cx d_L_pieces_55 rfl rfl
  · refine z_iload_n cx d_L_pieces_21 22 rfl rfl 2 rfl ?_
    refine z_iload cx d_L_pieces_22 24 rfl 4 rfl ?_
    refine y_callS_i (As := [.int (zI v2_3), .int (zI v4_5)]) (rest := []) (W := fun u_8 => wX g X N T Rd Fr Ac Ch PS Ly Pa OT Ea Ga Im0 Im1 La) (rf := fun u_8 => zI u_8) (rm := zr0) cx (fun _ hq => tL_has hq) d_L_pieces_24 27 rfl kk_L_has q_864 q_865 ⟨rfl, rfl⟩ ⟨Nat.le_of_ble_eq_true rfl, Nat.le_of_ble_eq_true rfl⟩ rfl rfl (Nat.le_of_ble_eq_true rfl) ⟨Nat.zero_le _, Nat.zero_le _⟩ h (fun u_8 h => ?_)
    refine kf2_f (P := fun (v2_9 : Int) (v3_10 : Int) => V p l e zrL_pieces s m args below meth c A s.heap g 5 Q (wX g X N T Rd Fr Ac Ch PS Ly Pa OT Ea Ga Im0 Im1 La) 0 0 [(0, .ref (g.2.2 92)), (1, .int (zI a2)), (2, .int (zI v2_9)), (3, .int (zI v3_10)), (4, .int (zI v4_5))] 48 []) h (fun v2_9 v3_10 h => ?_) (fun k_11 hk_11 h => ?_)
    · refine y_iinc cx 4 d_L_pieces_48 51 rfl rfl (by decide) (lv' := [(4, .int (zI (v4_5 + 1))), (0, .ref (g.2.2 92)), (1, .int (zI a2)), (2, .int (zI v2_9)), (3, .int (zI v3_10))]) rfl ?_
      refine z_goto cx d_L_pieces_51 13 (by decide) ?_
      refine z_sub [1, 2, 3, 4, 0] rfl ?_
      exact hrec_6 _ _ _ h
    refine y_if_ne cx d_L_pieces_27 30 rfl 33 (by decide) rfl h (fun h => ?_) (fun h => ?_)
    · refine z_iload_n cx d_L_pieces_33 34 rfl rfl 2 rfl ?_
      refine z_aload_n cx d_L_pieces_34 35 rfl rfl 0 rfl ?_
      refine z_iload cx d_L_pieces_35 37 rfl 4 rfl ?_
      refine z_iload_n cx d_L_pieces_37 38 rfl rfl 1 rfl ?_
      refine y_callS_i (As := [.ref (g.2.2 92), .int (zI v4_5), .int (zI a2)]) (rest := [.int (zI v2_3)]) (W := fun u_12 => wX g X N T Rd Fr Ac Ch PS Ly Pa OT Ea Ga Im0 Im1 La) (rf := fun u_12 => zI u_12) (rm := zrL_joined) cx (fun _ hq => tL_joined hq) d_L_pieces_38 41 rfl kk_L_joined q_873 q_874 ⟨rfl, rfl⟩ ⟨Nat.le_of_ble_eq_true rfl, Nat.le_of_ble_eq_true rfl⟩ rfl rfl (Nat.le_of_ble_eq_true rfl) ⟨Nat.zero_le _, Nat.zero_le _⟩ h (fun u_12 h => ?_)
      refine y_iconst cx d_L_pieces_41 42 rfl ?_
      refine y_ixor cx d_L_pieces_42 43 rfl ?_
      refine y_iand cx d_L_pieces_43 44 rfl ?_
      refine y_istore_n_b cx d_L_pieces_44 45 rfl rfl (by decide) (fun y => [(2, .int (zI y)), (0, .ref (g.2.2 92)), (1, .int (zI a2)), (3, .int (zI v3_4)), (4, .int (zI v4_5))]) (fun y => rfl) h (fun v2_13 h => ?_)
      refine y_iinc cx 3 d_L_pieces_45 48 rfl rfl (by decide) (lv' := [(3, .int (zI (v3_4 + 1))), (2, .int (zI v2_13)), (0, .ref (g.2.2 92)), (1, .int (zI a2)), (4, .int (zI v4_5))]) rfl ?_
      refine z_sub [2, 3, 1, 0, 4] rfl ?_
      exact hk_11 _ _ h
    · refine z_goto cx d_L_pieces_30 48 (by decide) ?_
      exact hk_11 _ _ h
def zrL_isForest : Room := { frames := 3, cells := 0, slots := 0, locals := 70 }
set_option maxHeartbeats 40000000 in
theorem tL_isForest {l : Launch} {g : ZG} {X : ZB} {N : ZB} {T : ZB} {Rd : ZB} {Fr : ZB} {Ac : ZA} {Ch : ZB} {PS : ZB} {Ly : ZB} {Pa : ZQ} {OT : ZB} {Ea : ZB} {Ga : ZB} {Im0 : ZO} {Im1 : ZO} {La : ZB} {a2 : Int} {r : Int} (h : fL_isForest La a2 = some r) : zMi l yL_isForest cL_isForest 2 (some .boolean) zrL_isForest g [.ref (g.2.2 92), .int (zI a2)] (wX g X N T Rd Fr Ac Ch PS Ly Pa OT Ea Ga Im0 Im1 La) (wX g X N T Rd Fr Ac Ch PS Ly Pa OT Ea Ga Im0 Im1 La) (zI r) := by
  unfold fL_isForest at h
  refine zMi_q (own := RL) rfl (by decide +kernel) (Nat.le_of_ble_eq_true rfl) (lv := [(0, .ref (g.2.2 92)), (1, .int (zI a2))]) rfl ⟨rfl, rfl⟩ ?_
  intro p e s m args below meth c A Q hQ cx
  refine z_aload_n cx d_L_isForest_0 1 rfl rfl 0 rfl ?_
  refine z_iload_n cx d_L_isForest_1 2 rfl rfl 1 rfl ?_
  refine y_callS_i (As := [.ref (g.2.2 92), .int (zI a2)]) (rest := []) (W := fun u_1 => wX g X N T Rd Fr Ac Ch PS Ly Pa OT Ea Ga Im0 Im1 La) (rf := fun u_1 => zI u_1) (rm := zrL_pieces) cx (fun _ hq => tL_pieces hq) d_L_isForest_2 5 rfl kk_L_pieces q_870 q_871 ⟨rfl, rfl⟩ ⟨Nat.le_of_ble_eq_true rfl, Nat.le_of_ble_eq_true rfl⟩ rfl rfl (Nat.le_of_ble_eq_true rfl) ⟨Nat.zero_le _, Nat.zero_le _⟩ h (fun u_1 h => ?_)
  refine z_aload_n cx d_L_isForest_5 6 rfl rfl 0 rfl ?_
  refine y_iconst cx d_L_isForest_6 7 rfl ?_
  refine y_ialdx cx d_L_isForest_7 8 rfl e_La_v (by decide) h (fun x_2 h => ?_)
  refine z_iload_n cx d_L_isForest_8 9 rfl rfl 1 rfl ?_
  refine y_callS_i (As := [.int (zI a2)]) (rest := [.int (zI x_2), .int (zI u_1)]) (W := fun u_3 => wX g X N T Rd Fr Ac Ch PS Ly Pa OT Ea Ga Im0 Im1 La) (rf := fun u_3 => zI u_3) (rm := zr0) cx (fun _ hq => tL_bits hq) d_L_isForest_9 12 rfl kk_L_bits q_861 q_862 ⟨rfl, rfl⟩ ⟨Nat.le_of_ble_eq_true rfl, Nat.le_of_ble_eq_true rfl⟩ rfl rfl (Nat.le_of_ble_eq_true rfl) ⟨Nat.zero_le _, Nat.zero_le _⟩ h (fun u_3 h => ?_)
  refine y_isub cx d_L_isForest_12 13 rfl ?_
  refine kf1_f (P := fun (w0_4 : Int) => V p l e zrL_isForest s m args below meth c A s.heap g 2 Q (wX g X N T Rd Fr Ac Ch PS Ly Pa OT Ea Ga Im0 Im1 La) 0 0 [] 21 [.int (zI w0_4)]) h (fun w0_4 h => ?_) (fun k_5 hk_5 h => ?_)
  · obtain ⟨hz, h⟩ := zo_i h
    subst hQ
    obtain rfl := Option.some.inj h
    exact z_zret cx d_L_isForest_21 (zb01 hz) rfl rfl
  refine y_icmp_ne cx d_L_isForest_13 16 rfl 20 (by decide) rfl rfl h (fun h => ?_) (fun h => ?_)
  · refine y_iconst cx d_L_isForest_20 21 rfl ?_
    refine z_sub [] rfl ?_
    exact hk_5 _ h
  · refine y_iconst cx d_L_isForest_16 17 rfl ?_
    refine z_goto cx d_L_isForest_17 21 (by decide) ?_
    refine z_sub [] rfl ?_
    exact hk_5 _ h
