-- needs: 06.world 07.fun 08.links5 09.dec1 09.dec2 09.dec3 09.dec4 15.vmodel1
def zrM_forest : Room := { frames := 2, cells := 0, slots := 0, locals := 44 }
set_option maxHeartbeats 4000000 in
theorem tM_forest {l : Launch} {g : ZG} {M : ZB} {a1 : Int} {r : Int × ZB} (h : fM_forest M a1 = some r) : zMi l yX12_forest cX12_forest 2 (some .int) zrM_forest g [.ref (g.2.2 0), .int (zI a1)] (wM g M) (wM g r.2) (zI r.1) := by
  unfold fM_forest at h
  refine zMi_q (own := RX12) rfl (by decide +kernel) (Nat.le_of_ble_eq_true rfl) (lv := [(0, .ref (g.2.2 0)), (1, .int (zI a1))]) rfl ⟨rfl, rfl⟩ ?_
  intro p e s m args below meth c A Q hQ cx
  refine z_aload_n cx d_X12_forest_0 1 rfl rfl 0 rfl ?_
  refine y_iconst cx d_X12_forest_1 2 rfl ?_
  refine y_put cx d_X12_forest_2 5 rfl e_M rfl zX12 tyX12_ok nmX12 0 (by decide) q_1361 rfl rfl rfl rfl (Nat.le_of_ble_eq_true rfl) h (fun _ h9 => s_M_0 h9) (fun M_1 h => ?_)
  refine z_aload_n cx d_X12_forest_5 6 rfl rfl 0 rfl ?_
  refine z_iload_n cx d_X12_forest_6 7 rfl rfl 1 rfl ?_
  refine y_callV_i (As := [.int (zI a1)]) (rest := []) (W := fun u_2 => wM g M_1) (rf := fun u_2 => zI u_2) (rm := zrM_isForest) cx (fun _ hq => tM_isForest hq) d_X12_forest_7 10 rfl kk_X12_isForest q_1606 q_1608 q_67 rfl e_M rfl ⟨rfl, rfl⟩ ⟨Nat.le_of_ble_eq_true rfl, Nat.le_of_ble_eq_true rfl⟩ rfl rfl (Nat.le_of_ble_eq_true rfl) ⟨Nat.zero_le _, Nat.zero_le _⟩ h (fun u_2 h => ?_)
  refine kf1_f (P := fun (w0_3 : Int) => V p l e zrM_forest s m args below meth c A s.heap g 2 Q (wM g M_1) 0 0 [] 22 [.int (zI w0_3)]) h (fun w0_3 h => ?_) (fun k_4 hk_4 h => ?_)
  · subst hQ
    obtain rfl := Option.some.inj h
    exact z_iret cx d_X12_forest_22 rfl rfl
  refine y_if_eq cx d_X12_forest_10 13 rfl 21 (by decide) rfl h (fun h => ?_) (fun h => ?_)
  · refine y_iconst cx d_X12_forest_21 22 rfl ?_
    refine z_sub [] rfl ?_
    exact hk_4 _ h
  · refine z_aload_n cx d_X12_forest_13 14 rfl rfl 0 rfl ?_
    refine z_iload_n cx d_X12_forest_14 15 rfl rfl 1 rfl ?_
    refine y_callV_i (As := [.int (zI a1)]) (rest := []) (W := fun u_5 => wM g M_1) (rf := fun u_5 => zI u_5) (rm := zrM_inForest) cx (fun _ hq => tM_inForest hq) d_X12_forest_15 18 rfl kk_X12_inForest q_1614 q_1616 q_69 rfl e_M rfl ⟨rfl, rfl⟩ ⟨Nat.le_of_ble_eq_true rfl, Nat.le_of_ble_eq_true rfl⟩ rfl rfl (Nat.le_of_ble_eq_true rfl) ⟨Nat.zero_le _, Nat.zero_le _⟩ h (fun u_5 h => ?_)
    refine z_goto cx d_X12_forest_18 22 (by decide) ?_
    refine z_sub [] rfl ?_
    exact hk_4 _ h
set_option maxHeartbeats 4000000 in
theorem tM_points {l : Launch} {g : ZG} {M : ZB}  {r : Int} (h : fM_points M = some r) : zMi l yX12_points cX12_points 1 (some .int) zr0 g [.ref (g.2.2 0)] (wM g M) (wM g M) (zI r) := by
  unfold fM_points at h
  refine zMi_q (own := RX12) rfl (by decide +kernel) (Nat.le_of_ble_eq_true rfl) (lv := [(0, .ref (g.2.2 0))]) rfl ⟨rfl, rfl⟩ ?_
  intro p e s m args below meth c A Q hQ cx
  refine z_aload_n cx d_X12_points_0 1 rfl rfl 0 rfl ?_
  refine z_get cx d_X12_points_1 4 rfl e_M rfl zX12 12 (by decide) q_1373 rfl rfl ?_
  refine y_iconst cx d_X12_points_4 5 rfl ?_
  refine y_ialdx cx d_X12_points_5 6 rfl e_M_now (by decide) h (fun x_1 h => ?_)
  subst hQ
  obtain rfl := Option.some.inj h
  exact z_iret cx d_X12_points_6 rfl rfl
def zrM_pieces : Room := { frames := 2, cells := 0, slots := 0, locals := 46 }
set_option maxHeartbeats 4000000 in
theorem tM_pieces {l : Launch} {g : ZG} {M : ZB} {a1 : Int} {r : Int} (h : fM_pieces M a1 = some r) : zMi l yX12_pieces cX12_pieces 5 (some .int) zrM_pieces g [.ref (g.2.2 0), .int (zI a1)] (wM g M) (wM g M) (zI r) := by
  unfold fM_pieces at h
  refine zMi_q (own := RX12) rfl (by decide +kernel) (Nat.le_of_ble_eq_true rfl) (lv := [(0, .ref (g.2.2 0)), (1, .int (zI a1))]) rfl ⟨rfl, rfl⟩ ?_
  intro p e s m args below meth c A Q hQ cx
  refine y_iconst cx d_X12_pieces_0 1 rfl ?_
  refine z_aload_n cx d_X12_pieces_1 2 rfl rfl 0 rfl ?_
  refine y_callV_i (As := []) (rest := [.int (zI 1)]) (W := fun u_1 => wM g M) (rf := fun u_1 => zI u_1) (rm := zr0) cx (fun _ hq => tM_points hq) d_X12_pieces_2 5 rfl kk_X12_points q_1641 q_1643 q_73 rfl e_M rfl ⟨rfl, rfl⟩ ⟨Nat.le_of_ble_eq_true rfl, Nat.le_of_ble_eq_true rfl⟩ rfl rfl (Nat.le_of_ble_eq_true rfl) ⟨Nat.zero_le _, Nat.zero_le _⟩ h (fun u_1 h => ?_)
  refine y_ishl cx d_X12_pieces_5 6 rfl ?_
  refine y_iconst cx d_X12_pieces_6 7 rfl ?_
  refine y_isub cx d_X12_pieces_7 8 rfl ?_
  refine y_istore_n_b cx d_X12_pieces_8 9 rfl rfl (by decide) (fun y => [(2, .int (zI y)), (0, .ref (g.2.2 0)), (1, .int (zI a1))]) (fun y => rfl) h (fun v2_2 h => ?_)
  refine y_iconst cx d_X12_pieces_9 10 rfl ?_
  refine y_istore_n cx d_X12_pieces_10 11 rfl rfl (by decide) (lv' := [(3, .int (zI 0)), (2, .int (zI v2_2)), (0, .ref (g.2.2 0)), (1, .int (zI a1))]) rfl ?_
  refine y_iconst cx d_X12_pieces_11 12 rfl ?_
  refine y_istore cx d_X12_pieces_12 14 rfl (by decide) (lv' := [(4, .int (zI 0)), (3, .int (zI 0)), (2, .int (zI v2_2)), (0, .ref (g.2.2 0)), (1, .int (zI a1))]) rfl ?_
  refine z_sub [3, 4, 2, 1, 0] rfl ?_
  refine lop3_f (P := fun (v2_3 : Int) (v3_4 : Int) (v4_5 : Int) => V p l e zrM_pieces s m args below meth c A s.heap g 5 Q (wM g M) 0 0 [(0, .ref (g.2.2 0)), (1, .int (zI a1)), (2, .int (zI v2_3)), (3, .int (zI v3_4)), (4, .int (zI v4_5))] 14 []) (fun rec_6 hrec_6 v2_3 v3_4 v4_5 h => ?_) _ _ _ _ h
  refine z_iload cx d_X12_pieces_14 16 rfl 4 rfl ?_
  refine z_aload_n cx d_X12_pieces_16 17 rfl rfl 0 rfl ?_
  refine y_callV_i (As := []) (rest := [.int (zI v4_5)]) (W := fun u_7 => wM g M) (rf := fun u_7 => zI u_7) (rm := zr0) cx (fun _ hq => tM_points hq) d_X12_pieces_17 20 rfl kk_X12_points q_1641 q_1643 q_73 rfl e_M rfl ⟨rfl, rfl⟩ ⟨Nat.le_of_ble_eq_true rfl, Nat.le_of_ble_eq_true rfl⟩ rfl rfl (Nat.le_of_ble_eq_true rfl) ⟨Nat.zero_le _, Nat.zero_le _⟩ h (fun u_7 h => ?_)
  refine y_icmp_ge cx d_X12_pieces_20 23 rfl 56 (by decide) rfl rfl h (fun h => ?_) (fun h => ?_)
  · refine z_iload_n cx d_X12_pieces_56 57 rfl rfl 3 rfl ?_
    subst hQ
    obtain rfl := Option.some.inj h
    exact z_iret cx d_X12_pieces_57 rfl rfl
  · refine z_iload_n cx d_X12_pieces_23 24 rfl rfl 2 rfl ?_
    refine z_iload cx d_X12_pieces_24 26 rfl 4 rfl ?_
    refine y_callS_i (As := [.int (zI v2_3), .int (zI v4_5)]) (rest := []) (W := fun u_8 => wM g M) (rf := fun u_8 => zI u_8) (rm := zr0) cx (fun _ hq => tM_has hq) d_X12_pieces_26 29 rfl kk_X12_has q_1626 q_1627 ⟨rfl, rfl⟩ ⟨Nat.le_of_ble_eq_true rfl, Nat.le_of_ble_eq_true rfl⟩ rfl rfl (Nat.le_of_ble_eq_true rfl) ⟨Nat.zero_le _, Nat.zero_le _⟩ h (fun u_8 h => ?_)
    refine kf2_f (P := fun (v2_9 : Int) (v3_10 : Int) => V p l e zrM_pieces s m args below meth c A s.heap g 5 Q (wM g M) 0 0 [(0, .ref (g.2.2 0)), (1, .int (zI a1)), (2, .int (zI v2_9)), (3, .int (zI v3_10)), (4, .int (zI v4_5))] 50 []) h (fun v2_9 v3_10 h => ?_) (fun k_11 hk_11 h => ?_)
    · refine y_iinc cx 4 d_X12_pieces_50 53 rfl rfl (by decide) (lv' := [(4, .int (zI (v4_5 + 1))), (0, .ref (g.2.2 0)), (1, .int (zI a1)), (2, .int (zI v2_9)), (3, .int (zI v3_10))]) rfl ?_
      refine z_goto cx d_X12_pieces_53 14 (by decide) ?_
      refine z_sub [1, 2, 3, 4, 0] rfl ?_
      exact hrec_6 _ _ _ h
    refine y_if_ne cx d_X12_pieces_29 32 rfl 35 (by decide) rfl h (fun h => ?_) (fun h => ?_)
    · refine z_iload_n cx d_X12_pieces_35 36 rfl rfl 2 rfl ?_
      refine z_aload_n cx d_X12_pieces_36 37 rfl rfl 0 rfl ?_
      refine z_iload cx d_X12_pieces_37 39 rfl 4 rfl ?_
      refine z_iload_n cx d_X12_pieces_39 40 rfl rfl 1 rfl ?_
      refine y_callV_i (As := [.int (zI v4_5), .int (zI a1)]) (rest := [.int (zI v2_3)]) (W := fun u_12 => wM g M) (rf := fun u_12 => zI u_12) (rm := zrM_joined) cx (fun _ hq => tM_joined hq) d_X12_pieces_40 43 rfl kk_X12_joined q_1622 q_1624 q_71 rfl e_M rfl ⟨rfl, rfl⟩ ⟨Nat.le_of_ble_eq_true rfl, Nat.le_of_ble_eq_true rfl⟩ rfl rfl (Nat.le_of_ble_eq_true rfl) ⟨Nat.zero_le _, Nat.zero_le _⟩ h (fun u_12 h => ?_)
      refine y_iconst cx d_X12_pieces_43 44 rfl ?_
      refine y_ixor cx d_X12_pieces_44 45 rfl ?_
      refine y_iand cx d_X12_pieces_45 46 rfl ?_
      refine y_istore_n_b cx d_X12_pieces_46 47 rfl rfl (by decide) (fun y => [(2, .int (zI y)), (0, .ref (g.2.2 0)), (1, .int (zI a1)), (3, .int (zI v3_4)), (4, .int (zI v4_5))]) (fun y => rfl) h (fun v2_13 h => ?_)
      refine y_iinc cx 3 d_X12_pieces_47 50 rfl rfl (by decide) (lv' := [(3, .int (zI (v3_4 + 1))), (2, .int (zI v2_13)), (0, .ref (g.2.2 0)), (1, .int (zI a1)), (4, .int (zI v4_5))]) rfl ?_
      refine z_sub [2, 3, 1, 0, 4] rfl ?_
      exact hk_11 _ _ h
    · refine z_goto cx d_X12_pieces_32 50 (by decide) ?_
      exact hk_11 _ _ h
def zrM_sound : Room := { frames := 1, cells := 0, slots := 0, locals := 21 }
set_option maxHeartbeats 4000000 in
theorem tM_sound {l : Launch} {g : ZG} {M : ZB}  {r : Int} (h : fM_sound M = some r) : zMi l yX12_sound cX12_sound 3 (some .int) zrM_sound g [.ref (g.2.2 0)] (wM g M) (wM g M) (zI r) := by
  unfold fM_sound at h
  refine zMi_q (own := RX12) rfl (by decide +kernel) (Nat.le_of_ble_eq_true rfl) (lv := [(0, .ref (g.2.2 0))]) rfl ⟨rfl, rfl⟩ ?_
  intro p e s m args below meth c A Q hQ cx
  refine y_iconst cx d_X12_sound_0 1 rfl ?_
  refine y_istore_n cx d_X12_sound_1 2 rfl rfl (by decide) (lv' := [(1, .int (zI 0)), (0, .ref (g.2.2 0))]) rfl ?_
  refine y_iconst cx d_X12_sound_2 3 rfl ?_
  refine y_istore_n cx d_X12_sound_3 4 rfl rfl (by decide) (lv' := [(2, .int (zI 0)), (1, .int (zI 0)), (0, .ref (g.2.2 0))]) rfl ?_
  refine z_sub [2, 1, 0] rfl ?_
  refine lop2_f (P := fun (v1_1 : Int) (v2_2 : Int) => V p l e zrM_sound s m args below meth c A s.heap g 3 Q (wM g M) 0 0 [(0, .ref (g.2.2 0)), (1, .int (zI v1_1)), (2, .int (zI v2_2))] 4 []) (fun rec_3 hrec_3 v1_1 v2_2 h => ?_) _ _ _ h
  refine z_iload_n cx d_X12_sound_4 5 rfl rfl 2 rfl ?_
  refine z_aload_n cx d_X12_sound_5 6 rfl rfl 0 rfl ?_
  refine y_callV_i (As := []) (rest := [.int (zI v2_2)]) (W := fun u_4 => wM g M) (rf := fun u_4 => zI u_4) (rm := zr0) cx (fun _ hq => tM_lines hq) d_X12_sound_6 9 rfl kk_X12_lines q_1582 q_1584 q_63 rfl e_M rfl ⟨rfl, rfl⟩ ⟨Nat.le_of_ble_eq_true rfl, Nat.le_of_ble_eq_true rfl⟩ rfl rfl (Nat.le_of_ble_eq_true rfl) ⟨Nat.zero_le _, Nat.zero_le _⟩ h (fun u_4 h => ?_)
  refine y_icmp_ge cx d_X12_sound_9 12 rfl 32 (by decide) rfl rfl h (fun h => ?_) (fun h => ?_)
  · refine z_iload_n cx d_X12_sound_32 33 rfl rfl 1 rfl ?_
    subst hQ
    obtain rfl := Option.some.inj h
    exact z_iret cx d_X12_sound_33 rfl rfl
  · refine z_aload_n cx d_X12_sound_12 13 rfl rfl 0 rfl ?_
    refine z_iload_n cx d_X12_sound_13 14 rfl rfl 2 rfl ?_
    refine y_callV_i (As := [.int (zI v2_2)]) (rest := []) (W := fun u_5 => wM g M) (rf := fun u_5 => zI u_5) (rm := zr0) cx (fun _ hq => tM_isBroken hq) d_X12_sound_14 17 rfl kk_X12_isBroken q_1610 q_1612 q_68 rfl e_M rfl ⟨rfl, rfl⟩ ⟨Nat.le_of_ble_eq_true rfl, Nat.le_of_ble_eq_true rfl⟩ rfl rfl (Nat.le_of_ble_eq_true rfl) ⟨Nat.zero_le _, Nat.zero_le _⟩ h (fun u_5 h => ?_)
    refine kf1_f (P := fun (v1_6 : Int) => V p l e zrM_sound s m args below meth c A s.heap g 3 Q (wM g M) 0 0 [(0, .ref (g.2.2 0)), (1, .int (zI v1_6)), (2, .int (zI v2_2))] 26 []) h (fun v1_6 h => ?_) (fun k_7 hk_7 h => ?_)
    · refine y_iinc cx 2 d_X12_sound_26 29 rfl rfl (by decide) (lv' := [(2, .int (zI (v2_2 + 1))), (0, .ref (g.2.2 0)), (1, .int (zI v1_6))]) rfl ?_
      refine z_goto cx d_X12_sound_29 4 (by decide) ?_
      refine z_sub [1, 2, 0] rfl ?_
      exact hrec_3 _ _ h
    refine y_if_ne cx d_X12_sound_17 20 rfl 26 (by decide) rfl h (fun h => ?_) (fun h => ?_)
    · exact hk_7 _ h
    · refine z_iload_n cx d_X12_sound_20 21 rfl rfl 1 rfl ?_
      refine y_iconst cx d_X12_sound_21 22 rfl ?_
      refine z_iload_n cx d_X12_sound_22 23 rfl rfl 2 rfl ?_
      refine y_ishl cx d_X12_sound_23 24 rfl ?_
      refine y_ior cx d_X12_sound_24 25 rfl ?_
      refine y_istore_n_b cx d_X12_sound_25 26 rfl rfl (by decide) (fun y => [(1, .int (zI y)), (0, .ref (g.2.2 0)), (2, .int (zI v2_2))]) (fun y => rfl) h (fun v1_8 h => ?_)
      refine z_sub [1, 0, 2] rfl ?_
      exact hk_7 _ h
set_option maxHeartbeats 4000000 in
theorem tM_bits {l : Launch} {g : ZG} {w : va_W} {a1 : Int} {r : Int} (h : fM_bits a1 = some r) : zMi l yX12_bits cX12_bits 3 (some .int) zr0 g [.int (zI a1)] (w) (w) (zI r) := by
  unfold fM_bits at h
  refine zMi_q (own := RX12) rfl (by decide +kernel) (Nat.le_of_ble_eq_true rfl) (lv := [(0, .int (zI a1))]) rfl ⟨rfl, rfl⟩ ?_
  intro p e s m args below meth c A Q hQ cx
  refine y_iconst cx d_X12_bits_0 1 rfl ?_
  refine y_istore_n cx d_X12_bits_1 2 rfl rfl (by decide) (lv' := [(1, .int (zI 0)), (0, .int (zI a1))]) rfl ?_
  refine z_iload_n cx d_X12_bits_2 3 rfl rfl 1 rfl ?_
  refine y_istore_n cx d_X12_bits_3 4 rfl rfl (by decide) (lv' := [(2, .int (zI a1)), (1, .int (zI 0)), (0, .int (zI a1))]) rfl ?_
  refine z_sub [1, 0] rfl ?_
  refine lop2_f (P := fun (v1_1 : Int) (v2_2 : Int) => V p l e zr0 s m args below meth c A s.heap g 3 Q (w) 0 0 [(1, .int (zI v1_1)), (2, .int (zI v2_2))] 4 []) (fun rec_3 hrec_3 v1_1 v2_2 h => ?_) _ _ _ h
  refine z_iload_n cx d_X12_bits_4 5 rfl rfl 1 rfl ?_
  refine y_if_eq cx d_X12_bits_5 8 rfl 20 (by decide) rfl h (fun h => ?_) (fun h => ?_)
  · refine z_iload_n cx d_X12_bits_20 21 rfl rfl 0 rfl ?_
    subst hQ
    obtain rfl := Option.some.inj h
    exact z_iret cx d_X12_bits_21 rfl rfl
  · refine y_iinc cx 0 d_X12_bits_8 11 rfl rfl (by decide) (lv' := [(1, .int (zI (v1_1 + 1))), (2, .int (zI v2_2))]) rfl ?_
    refine z_iload_n cx d_X12_bits_11 12 rfl rfl 1 rfl ?_
    refine z_iload_n cx d_X12_bits_12 13 rfl rfl 1 rfl ?_
    refine y_iconst cx d_X12_bits_13 14 rfl ?_
    refine y_isub cx d_X12_bits_14 15 rfl ?_
    refine y_iand cx d_X12_bits_15 16 rfl ?_
    refine y_istore_n_b cx d_X12_bits_16 17 rfl rfl (by decide) (fun y => [(2, .int (zI y)), (1, .int (zI (v1_1 + 1)))]) (fun y => rfl) h (fun v2_4 h => ?_)
    refine z_goto cx d_X12_bits_17 4 (by decide) ?_
    refine z_sub [1, 0] rfl ?_
    exact hrec_3 _ _ h
def zrM_now : Room := { frames := 3, cells := 0, slots := 0, locals := 70 }
set_option maxHeartbeats 4000000 in
theorem tM_now {l : Launch} {g : ZG} {M : ZB} {a1 : Int} {r : Int × ZB} (h : fM_now M a1 = some r) : zMi l yX12_now cX12_now 4 (some .int) zrM_now g [.ref (g.2.2 0), .int (zI a1)] (wM g M) (wM g r.2) (zI r.1) := by
  unfold fM_now at h
  refine zMi_q (own := RX12) rfl (by decide +kernel) (Nat.le_of_ble_eq_true rfl) (lv := [(0, .ref (g.2.2 0)), (1, .int (zI a1))]) rfl ⟨rfl, rfl⟩ ?_
  intro p e s m args below meth c A Q hQ cx
  refine z_aload_n cx d_X12_now_0 1 rfl rfl 0 rfl ?_
  refine y_iconst cx d_X12_now_1 2 rfl ?_
  refine y_put cx d_X12_now_2 5 rfl e_M rfl zX12 tyX12_ok nmX12 0 (by decide) q_1361 rfl rfl rfl rfl (Nat.le_of_ble_eq_true rfl) h (fun _ h9 => s_M_0 h9) (fun M_1 h => ?_)
  refine z_iload_n cx d_X12_now_5 6 rfl rfl 1 rfl ?_
  refine ite_c h (fun c_2 h => ?_) (fun c_2 h => ?_)
  · refine y_swIn cx d_X12_now_6 0 (Eq.trans rfl c_2) 56 (by decide) (by decide) rfl (by decide) ?_
    refine z_aload_n cx d_X12_now_56 57 rfl rfl 0 rfl ?_
    refine y_callV_i (As := []) (rest := []) (W := fun u_3 => wM g M_1) (rf := fun u_3 => zI u_3) (rm := zr0) cx (fun _ hq => tM_points hq) d_X12_now_57 60 rfl kk_X12_points q_1641 q_1643 q_73 rfl e_M rfl ⟨rfl, rfl⟩ ⟨Nat.le_of_ble_eq_true rfl, Nat.le_of_ble_eq_true rfl⟩ rfl rfl (Nat.le_of_ble_eq_true rfl) ⟨Nat.zero_le _, Nat.zero_le _⟩ h (fun u_3 h => ?_)
    subst hQ
    obtain rfl := Option.some.inj h
    exact z_iret cx d_X12_now_60 rfl rfl
  · refine ite_c h (fun c_4 h => ?_) (fun c_4 h => ?_)
    · refine y_swIn cx d_X12_now_6 1 (Eq.trans rfl c_4) 61 (by decide) (by decide) rfl (by decide) ?_
      refine z_aload_n cx d_X12_now_61 62 rfl rfl 0 rfl ?_
      refine y_callV_i (As := []) (rest := []) (W := fun u_5 => wM g M_1) (rf := fun u_5 => zI u_5) (rm := zr0) cx (fun _ hq => tM_lines hq) d_X12_now_62 65 rfl kk_X12_lines q_1582 q_1584 q_63 rfl e_M rfl ⟨rfl, rfl⟩ ⟨Nat.le_of_ble_eq_true rfl, Nat.le_of_ble_eq_true rfl⟩ rfl rfl (Nat.le_of_ble_eq_true rfl) ⟨Nat.zero_le _, Nat.zero_le _⟩ h (fun u_5 h => ?_)
      subst hQ
      obtain rfl := Option.some.inj h
      exact z_iret cx d_X12_now_65 rfl rfl
    · refine ite_c h (fun c_6 h => ?_) (fun c_6 h => ?_)
      · refine y_swIn cx d_X12_now_6 2 (Eq.trans rfl c_6) 66 (by decide) (by decide) rfl (by decide) ?_
        refine z_aload_n cx d_X12_now_66 67 rfl rfl 0 rfl ?_
        refine y_callV_i (As := []) (rest := []) (W := fun u_7 => wM g M_1) (rf := fun u_7 => zI u_7) (rm := zr0) cx (fun _ hq => tM_many hq) d_X12_now_67 70 rfl kk_X12_many q_1574 q_1576 q_61 rfl e_M rfl ⟨rfl, rfl⟩ ⟨Nat.le_of_ble_eq_true rfl, Nat.le_of_ble_eq_true rfl⟩ rfl rfl (Nat.le_of_ble_eq_true rfl) ⟨Nat.zero_le _, Nat.zero_le _⟩ h (fun u_7 h => ?_)
        subst hQ
        obtain rfl := Option.some.inj h
        exact z_iret cx d_X12_now_70 rfl rfl
      · refine ite_c h (fun c_8 h => ?_) (fun c_8 h => ?_)
        · refine y_swIn cx d_X12_now_6 3 (Eq.trans rfl c_8) 71 (by decide) (by decide) rfl (by decide) ?_
          refine z_aload_n cx d_X12_now_71 72 rfl rfl 0 rfl ?_
          refine y_callV_i (As := []) (rest := []) (W := fun u_9 => wM g M_1) (rf := fun u_9 => zI u_9) (rm := zrM_sound) cx (fun _ hq => tM_sound hq) d_X12_now_72 75 rfl kk_X12_sound q_1645 q_1647 q_74 rfl e_M rfl ⟨rfl, rfl⟩ ⟨Nat.le_of_ble_eq_true rfl, Nat.le_of_ble_eq_true rfl⟩ rfl rfl (Nat.le_of_ble_eq_true rfl) ⟨Nat.zero_le _, Nat.zero_le _⟩ h (fun u_9 h => ?_)
          refine y_callS_i (As := [.int (zI u_9)]) (rest := []) (W := fun u_10 => wM g M_1) (rf := fun u_10 => zI u_10) (rm := zr0) cx (fun _ hq => tM_bits hq) d_X12_now_75 78 rfl kk_X12_bits q_1649 q_1650 ⟨rfl, rfl⟩ ⟨Nat.le_of_ble_eq_true rfl, Nat.le_of_ble_eq_true rfl⟩ rfl rfl (Nat.le_of_ble_eq_true rfl) ⟨Nat.zero_le _, Nat.zero_le _⟩ h (fun u_10 h => ?_)
          subst hQ
          obtain rfl := Option.some.inj h
          exact z_iret cx d_X12_now_78 rfl rfl
        · refine ite_c h (fun c_11 h => ?_) (fun c_11 h => ?_)
          · refine y_swIn cx d_X12_now_6 4 (Eq.trans rfl c_11) 79 (by decide) (by decide) rfl (by decide) ?_
            refine y_iconst cx d_X12_now_79 80 rfl ?_
            refine y_istore_n cx d_X12_now_80 81 rfl rfl (by decide) (lv' := [(2, .int (zI 0)), (0, .ref (g.2.2 0)), (1, .int (zI a1))]) rfl ?_
            refine y_iconst cx d_X12_now_81 82 rfl ?_
            refine y_istore_n cx d_X12_now_82 83 rfl rfl (by decide) (lv' := [(3, .int (zI 0)), (2, .int (zI 0)), (0, .ref (g.2.2 0)), (1, .int (zI a1))]) rfl ?_
            refine z_sub [2, 1, 0] rfl ?_
            refine lop2_f (P := fun (v2_12 : Int) (v3_13 : Int) => V p l e zrM_now s m args below meth c A s.heap g 4 Q (wM g M_1) 0 0 [(0, .ref (g.2.2 0)), (2, .int (zI v2_12)), (3, .int (zI v3_13))] 83 []) (fun rec_14 hrec_14 v2_12 v3_13 h => ?_) _ _ _ h
            refine z_iload_n cx d_X12_now_83 84 rfl rfl 2 rfl ?_
            refine z_aload_n cx d_X12_now_84 85 rfl rfl 0 rfl ?_
            refine y_callV_i (As := []) (rest := [.int (zI v3_13)]) (W := fun u_15 => wM g M_1) (rf := fun u_15 => zI u_15) (rm := zr0) cx (fun _ hq => tM_lines hq) d_X12_now_85 88 rfl kk_X12_lines q_1582 q_1584 q_63 rfl e_M rfl ⟨rfl, rfl⟩ ⟨Nat.le_of_ble_eq_true rfl, Nat.le_of_ble_eq_true rfl⟩ rfl rfl (Nat.le_of_ble_eq_true rfl) ⟨Nat.zero_le _, Nat.zero_le _⟩ h (fun u_15 h => ?_)
            refine y_icmp_ge cx d_X12_now_88 91 rfl 109 (by decide) rfl rfl h (fun h => ?_) (fun h => ?_)
            · refine z_iload_n cx d_X12_now_109 110 rfl rfl 1 rfl ?_
              subst hQ
              obtain rfl := Option.some.inj h
              exact z_iret cx d_X12_now_110 rfl rfl
            · refine z_aload_n cx d_X12_now_91 92 rfl rfl 0 rfl ?_
              refine z_iload_n cx d_X12_now_92 93 rfl rfl 2 rfl ?_
              refine y_callV_i (As := [.int (zI v3_13)]) (rest := []) (W := fun u_16 => wM g M_1) (rf := fun u_16 => zI u_16) (rm := zr0) cx (fun _ hq => tM_lies hq) d_X12_now_93 96 rfl kk_X12_lies q_1586 q_1588 q_64 rfl e_M rfl ⟨rfl, rfl⟩ ⟨Nat.le_of_ble_eq_true rfl, Nat.le_of_ble_eq_true rfl⟩ rfl rfl (Nat.le_of_ble_eq_true rfl) ⟨Nat.zero_le _, Nat.zero_le _⟩ h (fun u_16 h => ?_)
              refine y_iconst cx d_X12_now_96 97 rfl ?_
              refine kf1_f (P := fun (v2_17 : Int) => V p l e zrM_now s m args below meth c A s.heap g 4 Q (wM g M_1) 0 0 [(0, .ref (g.2.2 0)), (2, .int (zI v2_17)), (3, .int (zI v3_13))] 103 []) h (fun v2_17 h => ?_) (fun k_18 hk_18 h => ?_)
              · refine y_iinc cx 2 d_X12_now_103 106 rfl rfl (by decide) (lv' := [(3, .int (zI (v3_13 + 1))), (0, .ref (g.2.2 0)), (2, .int (zI v2_17))]) rfl ?_
                refine z_goto cx d_X12_now_106 83 (by decide) ?_
                refine z_sub [1, 2, 0] rfl ?_
                exact hrec_14 _ _ h
              refine y_icmp_eq cx d_X12_now_97 100 rfl 103 (by decide) rfl (nm_eq (x := (-1)) (by decide) (by decide)) h (fun h => ?_) (fun h => ?_)
              · exact hk_18 _ h
              · refine y_iinc cx 1 d_X12_now_100 103 rfl rfl (by decide) (lv' := [(2, .int (zI (v2_12 + 1))), (0, .ref (g.2.2 0)), (3, .int (zI v3_13))]) rfl ?_
                refine z_sub [1, 0, 2] rfl ?_
                exact hk_18 _ h
          · refine ite_c h (fun c_19 h => ?_) (fun c_19 h => ?_)
            · refine y_swIn cx d_X12_now_6 5 (Eq.trans rfl c_19) 111 (by decide) (by decide) rfl (by decide) ?_
              refine z_aload_n cx d_X12_now_111 112 rfl rfl 0 rfl ?_
              refine z_aload_n cx d_X12_now_112 113 rfl rfl 0 rfl ?_
              refine y_callV_i (As := []) (rest := [.ref (g.2.2 0)]) (W := fun u_20 => wM g M_1) (rf := fun u_20 => zI u_20) (rm := zrM_sound) cx (fun _ hq => tM_sound hq) d_X12_now_113 116 rfl kk_X12_sound q_1645 q_1647 q_74 rfl e_M rfl ⟨rfl, rfl⟩ ⟨Nat.le_of_ble_eq_true rfl, Nat.le_of_ble_eq_true rfl⟩ rfl rfl (Nat.le_of_ble_eq_true rfl) ⟨Nat.zero_le _, Nat.zero_le _⟩ h (fun u_20 h => ?_)
              refine y_callV_i (As := [.int (zI u_20)]) (rest := []) (W := fun u_21 => wM g M_1) (rf := fun u_21 => zI u_21) (rm := zrM_pieces) cx (fun _ hq => tM_pieces hq) d_X12_now_116 119 rfl kk_X12_pieces q_1652 q_1654 q_75 rfl e_M rfl ⟨rfl, rfl⟩ ⟨Nat.le_of_ble_eq_true rfl, Nat.le_of_ble_eq_true rfl⟩ rfl rfl (Nat.le_of_ble_eq_true rfl) ⟨Nat.zero_le _, Nat.zero_le _⟩ h (fun u_21 h => ?_)
              subst hQ
              obtain rfl := Option.some.inj h
              exact z_iret cx d_X12_now_119 rfl rfl
            · refine ite_c h (fun c_22 h => ?_) (fun c_22 h => ?_)
              · refine y_swIn cx d_X12_now_6 6 (Eq.trans rfl c_22) 120 (by decide) (by decide) rfl (by decide) ?_
                refine z_aload_n cx d_X12_now_120 121 rfl rfl 0 rfl ?_
                refine z_aload_n cx d_X12_now_121 122 rfl rfl 0 rfl ?_
                refine y_iconst cx d_X12_now_122 123 rfl ?_
                refine y_callV_i (As := [.int (zI 0)]) (rest := [.ref (g.2.2 0)]) (W := fun u_23 => wM g M_1) (rf := fun u_23 => zI u_23) (rm := zrM_inForest) cx (fun _ hq => tM_inForest hq) d_X12_now_123 126 rfl kk_X12_inForest q_1614 q_1616 q_69 rfl e_M rfl ⟨rfl, rfl⟩ ⟨Nat.le_of_ble_eq_true rfl, Nat.le_of_ble_eq_true rfl⟩ rfl rfl (Nat.le_of_ble_eq_true rfl) ⟨Nat.zero_le _, Nat.zero_le _⟩ h (fun u_23 h => ?_)
                refine y_callV_i (As := [.int (zI u_23)]) (rest := []) (W := fun u_24 => wM g M_1) (rf := fun u_24 => zI u_24) (rm := zrM_pieces) cx (fun _ hq => tM_pieces hq) d_X12_now_126 129 rfl kk_X12_pieces q_1652 q_1654 q_75 rfl e_M rfl ⟨rfl, rfl⟩ ⟨Nat.le_of_ble_eq_true rfl, Nat.le_of_ble_eq_true rfl⟩ rfl rfl (Nat.le_of_ble_eq_true rfl) ⟨Nat.zero_le _, Nat.zero_le _⟩ h (fun u_24 h => ?_)
                subst hQ
                obtain rfl := Option.some.inj h
                exact z_iret cx d_X12_now_129 rfl rfl
              · refine ite_c h (fun c_25 h => ?_) (fun c_25 h => ?_)
                · refine y_swIn cx d_X12_now_6 7 (Eq.trans rfl c_25) 130 (by decide) (by decide) rfl (by decide) ?_
                  refine z_aload_n cx d_X12_now_130 131 rfl rfl 0 rfl ?_
                  refine z_get cx d_X12_now_131 134 rfl e_M rfl zX12 20 (by decide) q_1381 rfl rfl ?_
                  subst hQ
                  obtain rfl := Option.some.inj h
                  exact z_iret cx d_X12_now_134 rfl rfl
                · refine ite_c h (fun c_26 h => ?_) (fun c_26 h => ?_)
                  · refine y_swIn cx d_X12_now_6 8 (Eq.trans rfl c_26) 135 (by decide) (by decide) rfl (by decide) ?_
                    refine z_aload_n cx d_X12_now_135 136 rfl rfl 0 rfl ?_
                    refine z_get cx d_X12_now_136 139 rfl e_M rfl zX12 2 (by decide) q_1363 rfl rfl ?_
                    subst hQ
                    obtain rfl := Option.some.inj h
                    exact z_iret cx d_X12_now_139 rfl rfl
                  · refine y_swOut cx d_X12_now_6 (by omega) 140 (by decide) ?_
                    refine y_iconst cx d_X12_now_140 141 rfl ?_
                    subst hQ
                    obtain rfl := Option.some.inj h
                    exact z_iret cx d_X12_now_141 rfl rfl
def zrM_whyNotPut : Room := { frames := 3, cells := 0, slots := 0, locals := 72 }
set_option maxHeartbeats 4000000 in
theorem tM_whyNotPut {l : Launch} {g : ZG} {M : ZB} {a1 : Int} {a2 : Int} {r : Int} (h : fM_whyNotPut M a1 a2 = some r) : zMi l yX12_whyNotPut cX12_whyNotPut 3 (some .int) zrM_whyNotPut g [.ref (g.2.2 0), .int (zI a1), .int (zI a2)] (wM g M) (wM g M) (zI r) := by
  unfold fM_whyNotPut at h
  refine zMi_q (own := RX12) rfl (by decide +kernel) (Nat.le_of_ble_eq_true rfl) (lv := [(0, .ref (g.2.2 0)), (1, .int (zI a1)), (2, .int (zI a2))]) rfl ⟨rfl, rfl⟩ ?_
  intro p e s m args below meth c A Q hQ cx
  refine z_aload_n cx d_X12_whyNotPut_0 1 rfl rfl 0 rfl ?_
  refine z_iload_n cx d_X12_whyNotPut_1 2 rfl rfl 1 rfl ?_
  refine y_callV_i (As := [.int (zI a1)]) (rest := []) (W := fun u_1 => wM g M) (rf := fun u_1 => zI u_1) (rm := zr0) cx (fun _ hq => tM_isBroken hq) d_X12_whyNotPut_2 5 rfl kk_X12_isBroken q_1610 q_1612 q_68 rfl e_M rfl ⟨rfl, rfl⟩ ⟨Nat.le_of_ble_eq_true rfl, Nat.le_of_ble_eq_true rfl⟩ rfl rfl (Nat.le_of_ble_eq_true rfl) ⟨Nat.zero_le _, Nat.zero_le _⟩ h (fun u_1 h => ?_)
  refine kf1_f (P := fun (w0_2 : Int) => V p l e zrM_whyNotPut s m args below meth c A s.heap g 3 Q (wM g M) 0 0 [] 43 [.int (zI w0_2)]) h (fun w0_2 h => ?_) (fun k_3 hk_3 h => ?_)
  · subst hQ
    obtain rfl := Option.some.inj h
    exact z_iret cx d_X12_whyNotPut_43 rfl rfl
  refine y_if_eq cx d_X12_whyNotPut_5 8 rfl 12 (by decide) rfl h (fun h => ?_) (fun h => ?_)
  · refine z_aload_n cx d_X12_whyNotPut_12 13 rfl rfl 0 rfl ?_
    refine z_iload_n cx d_X12_whyNotPut_13 14 rfl rfl 1 rfl ?_
    refine y_callV_i (As := [.int (zI a1)]) (rest := []) (W := fun u_4 => wM g M) (rf := fun u_4 => zI u_4) (rm := zr0) cx (fun _ hq => tM_lies hq) d_X12_whyNotPut_14 17 rfl kk_X12_lies q_1586 q_1588 q_64 rfl e_M rfl ⟨rfl, rfl⟩ ⟨Nat.le_of_ble_eq_true rfl, Nat.le_of_ble_eq_true rfl⟩ rfl rfl (Nat.le_of_ble_eq_true rfl) ⟨Nat.zero_le _, Nat.zero_le _⟩ h (fun u_4 h => ?_)
    refine y_iconst cx d_X12_whyNotPut_17 18 rfl ?_
    refine y_icmp_eq cx d_X12_whyNotPut_18 21 rfl 25 (by decide) rfl (nm_eq (x := (-1)) (by decide) (by decide)) h (fun h => ?_) (fun h => ?_)
    · refine z_aload_n cx d_X12_whyNotPut_25 26 rfl rfl 0 rfl ?_
      refine z_iload_n cx d_X12_whyNotPut_26 27 rfl rfl 1 rfl ?_
      refine z_aload_n cx d_X12_whyNotPut_27 28 rfl rfl 0 rfl ?_
      refine z_iload_n cx d_X12_whyNotPut_28 29 rfl rfl 2 rfl ?_
      refine y_callV_i (As := [.int (zI a2)]) (rest := [.int (zI a1), .ref (g.2.2 0)]) (W := fun u_5 => wM g M) (rf := fun u_5 => zI u_5) (rm := zrM_inForest) cx (fun _ hq => tM_inForest hq) d_X12_whyNotPut_29 32 rfl kk_X12_inForest q_1614 q_1616 q_69 rfl e_M rfl ⟨rfl, rfl⟩ ⟨Nat.le_of_ble_eq_true rfl, Nat.le_of_ble_eq_true rfl⟩ rfl rfl (Nat.le_of_ble_eq_true rfl) ⟨Nat.zero_le _, Nat.zero_le _⟩ h (fun u_5 h => ?_)
      refine y_callV_i (As := [.int (zI a1), .int (zI u_5)]) (rest := []) (W := fun u_6 => wM g M) (rf := fun u_6 => zI u_6) (rm := zrM_ringIn) cx (fun _ hq => tM_ringIn hq) d_X12_whyNotPut_32 35 rfl kk_X12_ringIn q_1618 q_1620 q_70 rfl e_M rfl ⟨rfl, rfl⟩ ⟨Nat.le_of_ble_eq_true rfl, Nat.le_of_ble_eq_true rfl⟩ rfl rfl (Nat.le_of_ble_eq_true rfl) ⟨Nat.zero_le _, Nat.zero_le _⟩ h (fun u_6 h => ?_)
      refine y_if_eq cx d_X12_whyNotPut_35 38 rfl 42 (by decide) rfl h (fun h => ?_) (fun h => ?_)
      · refine y_iconst cx d_X12_whyNotPut_42 43 rfl ?_
        refine z_sub [] rfl ?_
        exact hk_3 _ h
      · refine y_iconst cx d_X12_whyNotPut_38 39 rfl ?_
        refine z_goto cx d_X12_whyNotPut_39 43 (by decide) ?_
        refine z_sub [] rfl ?_
        exact hk_3 _ h
    · refine y_iconst cx d_X12_whyNotPut_21 22 rfl ?_
      refine z_goto cx d_X12_whyNotPut_22 43 (by decide) ?_
      refine z_sub [] rfl ?_
      exact hk_3 _ h
  · refine y_iconst cx d_X12_whyNotPut_8 9 rfl ?_
    refine z_goto cx d_X12_whyNotPut_9 43 (by decide) ?_
    refine z_sub [] rfl ?_
    exact hk_3 _ h
def zrM_put : Room := { frames := 4, cells := 0, slots := 0, locals := 94 }
set_option maxHeartbeats 4000000 in
theorem tM_put {l : Launch} {g : ZG} {M : ZB} {a1 : Int} {a2 : Int} {r : Int × ZB} (h : fM_put M a1 a2 = some r) : zMi l yX12_put cX12_put 4 (some .int) zrM_put g [.ref (g.2.2 0), .int (zI a1), .int (zI a2)] (wM g M) (wM g r.2) (zI r.1) := by
  unfold fM_put at h
  refine zMi_q (own := RX12) rfl (by decide +kernel) (Nat.le_of_ble_eq_true rfl) (lv := [(0, .ref (g.2.2 0)), (1, .int (zI a1)), (2, .int (zI a2))]) rfl ⟨rfl, rfl⟩ ?_
  intro p e s m args below meth c A Q hQ cx
  refine z_aload_n cx d_X12_put_0 1 rfl rfl 0 rfl ?_
  refine y_iconst cx d_X12_put_1 2 rfl ?_
  refine y_put cx d_X12_put_2 5 rfl e_M rfl zX12 tyX12_ok nmX12 0 (by decide) q_1361 rfl rfl rfl rfl (Nat.le_of_ble_eq_true rfl) h (fun _ h9 => s_M_0 h9) (fun M_1 h => ?_)
  refine z_aload_n cx d_X12_put_5 6 rfl rfl 0 rfl ?_
  refine z_iload_n cx d_X12_put_6 7 rfl rfl 1 rfl ?_
  refine y_callV_i (As := [.int (zI a1)]) (rest := []) (W := fun u_2 => wM g M_1) (rf := fun u_2 => zI u_2) (rm := zrM_isLine) cx (fun _ hq => tM_isLine hq) d_X12_put_7 10 rfl kk_X12_isLine q_1594 q_1596 q_65 rfl e_M rfl ⟨rfl, rfl⟩ ⟨Nat.le_of_ble_eq_true rfl, Nat.le_of_ble_eq_true rfl⟩ rfl rfl (Nat.le_of_ble_eq_true rfl) ⟨Nat.zero_le _, Nat.zero_le _⟩ h (fun u_2 h => ?_)
  refine kf0_f (P := V p l e zrM_put s m args below meth c A s.heap g 4 Q (wM g M_1) 0 0 [] 21 []) h (fun h => ?_) (fun k_3 hk_3 h => ?_)
  · refine y_iconst cx d_X12_put_21 22 rfl ?_
    subst hQ
    obtain rfl := Option.some.inj h
    exact z_iret cx d_X12_put_22 rfl rfl
  refine y_if_eq cx d_X12_put_10 13 rfl 21 (by decide) rfl h (fun h => ?_) (fun h => ?_)
  · refine z_sub [] rfl ?_
    exact hk_3  h
  · refine z_aload_n cx d_X12_put_13 14 rfl rfl 0 rfl ?_
    refine z_iload_n cx d_X12_put_14 15 rfl rfl 2 rfl ?_
    refine y_callV_i (As := [.int (zI a2)]) (rest := []) (W := fun u_4 => wM g M_1) (rf := fun u_4 => zI u_4) (rm := zrM_isForest) cx (fun _ hq => tM_isForest hq) d_X12_put_15 18 rfl kk_X12_isForest q_1606 q_1608 q_67 rfl e_M rfl ⟨rfl, rfl⟩ ⟨Nat.le_of_ble_eq_true rfl, Nat.le_of_ble_eq_true rfl⟩ rfl rfl (Nat.le_of_ble_eq_true rfl) ⟨Nat.zero_le _, Nat.zero_le _⟩ h (fun u_4 h => ?_)
    refine y_if_ne cx d_X12_put_18 21 rfl 23 (by decide) rfl h (fun h => ?_) (fun h => ?_)
    · refine z_aload_n cx d_X12_put_23 24 rfl rfl 0 rfl ?_
      refine z_iload_n cx d_X12_put_24 25 rfl rfl 1 rfl ?_
      refine z_iload_n cx d_X12_put_25 26 rfl rfl 2 rfl ?_
      refine y_callV_i (As := [.int (zI a1), .int (zI a2)]) (rest := []) (W := fun u_5 => wM g M_1) (rf := fun u_5 => zI u_5) (rm := zrM_whyNotPut) cx (fun _ hq => tM_whyNotPut hq) d_X12_put_26 29 rfl kk_X12_whyNotPut q_1660 q_1662 q_76 rfl e_M rfl ⟨rfl, rfl⟩ ⟨Nat.le_of_ble_eq_true rfl, Nat.le_of_ble_eq_true rfl⟩ rfl rfl (Nat.le_of_ble_eq_true rfl) ⟨Nat.zero_le _, Nat.zero_le _⟩ h (fun u_5 h => ?_)
      refine y_istore_n cx d_X12_put_29 30 rfl rfl (by decide) (lv' := [(3, .int (zI u_5)), (0, .ref (g.2.2 0)), (1, .int (zI a1)), (2, .int (zI a2))]) rfl ?_
      refine z_iload_n cx d_X12_put_30 31 rfl rfl 0 rfl ?_
      refine y_if_eq cx d_X12_put_31 34 rfl 36 (by decide) rfl h (fun h => ?_) (fun h => ?_)
      · refine z_aload_n cx d_X12_put_36 37 rfl rfl 1 rfl ?_
        refine y_callV_v (As := []) (rest := []) (W := fun u_6 => wM g u_6) (rm := zrM_snap) cx (fun _ hq => tM_snap hq) d_X12_put_37 40 rfl kk_X12_snap q_1578 q_1580 q_62 rfl e_M rfl ⟨rfl, rfl⟩ ⟨Nat.le_of_ble_eq_true rfl, Nat.le_of_ble_eq_true rfl⟩ rfl rfl (Nat.le_of_ble_eq_true rfl) ⟨Nat.zero_le _, Nat.zero_le _⟩ h (fun u_6 h => ?_)
        refine z_aload_n cx d_X12_put_40 41 rfl rfl 1 rfl ?_
        refine z_get cx d_X12_put_41 44 rfl e_M rfl zX12 12 (by decide) q_1373 rfl rfl ?_
        refine y_bipush cx d_X12_put_44 46 rfl (by decide) ?_
        refine z_iload_n cx d_X12_put_46 47 rfl rfl 2 rfl ?_
        refine y_iadd cx d_X12_put_47 48 rfl ?_
        refine z_iload_n cx d_X12_put_48 49 rfl rfl 3 rfl ?_
        refine y_iast cx d_X12_put_49 50 rfl e_M_now (by decide) h (fun _ h9 => s_M_now h9) (fun M_7 h => ?_)
        refine y_iconst cx d_X12_put_50 51 rfl ?_
        subst hQ
        obtain rfl := Option.some.inj h
        exact z_iret cx d_X12_put_51 rfl rfl
      · refine z_iload_n cx d_X12_put_34 35 rfl rfl 0 rfl ?_
        subst hQ
        obtain rfl := Option.some.inj h
        exact z_iret cx d_X12_put_35 rfl rfl
    · refine z_sub [] rfl ?_
      exact hk_3  h
def zrM_lift : Room := { frames := 2, cells := 0, slots := 0, locals := 45 }
set_option maxHeartbeats 4000000 in
theorem tM_lift {l : Launch} {g : ZG} {M : ZB} {a1 : Int} {r : Int × ZB} (h : fM_lift M a1 = some r) : zMi l yX12_lift cX12_lift 3 (some .int) zrM_lift g [.ref (g.2.2 0), .int (zI a1)] (wM g M) (wM g r.2) (zI r.1) := by
  unfold fM_lift at h
  refine zMi_q (own := RX12) rfl (by decide +kernel) (Nat.le_of_ble_eq_true rfl) (lv := [(0, .ref (g.2.2 0)), (1, .int (zI a1))]) rfl ⟨rfl, rfl⟩ ?_
  intro p e s m args below meth c A Q hQ cx
  refine z_aload_n cx d_X12_lift_0 1 rfl rfl 0 rfl ?_
  refine y_iconst cx d_X12_lift_1 2 rfl ?_
  refine y_put cx d_X12_lift_2 5 rfl e_M rfl zX12 tyX12_ok nmX12 0 (by decide) q_1361 rfl rfl rfl rfl (Nat.le_of_ble_eq_true rfl) h (fun _ h9 => s_M_0 h9) (fun M_1 h => ?_)
  refine z_aload_n cx d_X12_lift_5 6 rfl rfl 0 rfl ?_
  refine z_iload_n cx d_X12_lift_6 7 rfl rfl 1 rfl ?_
  refine y_callV_i (As := [.int (zI a1)]) (rest := []) (W := fun u_2 => wM g M_1) (rf := fun u_2 => zI u_2) (rm := zrM_isLine) cx (fun _ hq => tM_isLine hq) d_X12_lift_7 10 rfl kk_X12_isLine q_1594 q_1596 q_65 rfl e_M rfl ⟨rfl, rfl⟩ ⟨Nat.le_of_ble_eq_true rfl, Nat.le_of_ble_eq_true rfl⟩ rfl rfl (Nat.le_of_ble_eq_true rfl) ⟨Nat.zero_le _, Nat.zero_le _⟩ h (fun u_2 h => ?_)
  refine kf0_f (P := V p l e zrM_lift s m args below meth c A s.heap g 3 Q (wM g M_1) 0 0 [] 22 []) h (fun h => ?_) (fun k_3 hk_3 h => ?_)
  · refine y_iconst cx d_X12_lift_22 23 rfl ?_
    subst hQ
    obtain rfl := Option.some.inj h
    exact z_iret cx d_X12_lift_23 rfl rfl
  refine y_if_eq cx d_X12_lift_10 13 rfl 22 (by decide) rfl h (fun h => ?_) (fun h => ?_)
  · refine z_sub [] rfl ?_
    exact hk_3  h
  · refine z_aload_n cx d_X12_lift_13 14 rfl rfl 0 rfl ?_
    refine z_iload_n cx d_X12_lift_14 15 rfl rfl 1 rfl ?_
    refine y_callV_i (As := [.int (zI a1)]) (rest := []) (W := fun u_4 => wM g M_1) (rf := fun u_4 => zI u_4) (rm := zr0) cx (fun _ hq => tM_lies hq) d_X12_lift_15 18 rfl kk_X12_lies q_1586 q_1588 q_64 rfl e_M rfl ⟨rfl, rfl⟩ ⟨Nat.le_of_ble_eq_true rfl, Nat.le_of_ble_eq_true rfl⟩ rfl rfl (Nat.le_of_ble_eq_true rfl) ⟨Nat.zero_le _, Nat.zero_le _⟩ h (fun u_4 h => ?_)
    refine y_iconst cx d_X12_lift_18 19 rfl ?_
    refine y_icmp_ne cx d_X12_lift_19 22 rfl 24 (by decide) rfl (nm_eq (x := (-1)) (by decide) (by decide)) h (fun h => ?_) (fun h => ?_)
    · refine z_aload_n cx d_X12_lift_24 25 rfl rfl 0 rfl ?_
      refine y_callV_v (As := []) (rest := []) (W := fun u_5 => wM g u_5) (rm := zrM_snap) cx (fun _ hq => tM_snap hq) d_X12_lift_25 28 rfl kk_X12_snap q_1578 q_1580 q_62 rfl e_M rfl ⟨rfl, rfl⟩ ⟨Nat.le_of_ble_eq_true rfl, Nat.le_of_ble_eq_true rfl⟩ rfl rfl (Nat.le_of_ble_eq_true rfl) ⟨Nat.zero_le _, Nat.zero_le _⟩ h (fun u_5 h => ?_)
      refine z_aload_n cx d_X12_lift_28 29 rfl rfl 0 rfl ?_
      refine z_iload_n cx d_X12_lift_29 30 rfl rfl 1 rfl ?_
      refine y_callV_i (As := [.int (zI a1)]) (rest := []) (W := fun u_6 => wM g u_5) (rf := fun u_6 => zI u_6) (rm := zr0) cx (fun _ hq => tM_lies hq) d_X12_lift_30 33 rfl kk_X12_lies q_1586 q_1588 q_64 rfl e_M rfl ⟨rfl, rfl⟩ ⟨Nat.le_of_ble_eq_true rfl, Nat.le_of_ble_eq_true rfl⟩ rfl rfl (Nat.le_of_ble_eq_true rfl) ⟨Nat.zero_le _, Nat.zero_le _⟩ h (fun u_6 h => ?_)
      refine y_istore_n cx d_X12_lift_33 34 rfl rfl (by decide) (lv' := [(2, .int (zI u_6)), (0, .ref (g.2.2 0)), (1, .int (zI a1))]) rfl ?_
      refine z_aload_n cx d_X12_lift_34 35 rfl rfl 1 rfl ?_
      refine z_get cx d_X12_lift_35 38 rfl e_M rfl zX12 12 (by decide) q_1373 rfl rfl ?_
      refine y_bipush cx d_X12_lift_38 40 rfl (by decide) ?_
      refine z_iload_n cx d_X12_lift_40 41 rfl rfl 2 rfl ?_
      refine y_iadd cx d_X12_lift_41 42 rfl ?_
      refine y_iconst cx d_X12_lift_42 43 rfl ?_
      refine y_iast cx d_X12_lift_43 44 rfl e_M_now (by decide) h (fun _ h9 => s_M_now h9) (fun M_7 h => ?_)
      refine z_iload_n cx d_X12_lift_44 45 rfl rfl 0 rfl ?_
      subst hQ
      obtain rfl := Option.some.inj h
      exact z_iret cx d_X12_lift_45 rfl rfl
    · refine z_sub [] rfl ?_
      exact hk_3  h
def zrM_isLoose : Room := { frames := 1, cells := 0, slots := 0, locals := 21 }
set_option maxHeartbeats 4000000 in
theorem tM_isLoose {l : Launch} {g : ZG} {M : ZB} {a1 : Int} {r : Int} (h : fM_isLoose M a1 = some r) : zMi l yX12_isLoose cX12_isLoose 2 (some .boolean) zrM_isLoose g [.ref (g.2.2 0), .int (zI a1)] (wM g M) (wM g M) (zI r) := by
  unfold fM_isLoose at h
  refine zMi_q (own := RX12) rfl (by decide +kernel) (Nat.le_of_ble_eq_true rfl) (lv := [(0, .ref (g.2.2 0)), (1, .int (zI a1))]) rfl ⟨rfl, rfl⟩ ?_
  intro p e s m args below meth c A Q hQ cx
  refine z_aload_n cx d_X12_isLoose_0 1 rfl rfl 0 rfl ?_
  refine z_iload_n cx d_X12_isLoose_1 2 rfl rfl 1 rfl ?_
  refine y_callV_i (As := [.int (zI a1)]) (rest := []) (W := fun u_1 => wM g M) (rf := fun u_1 => zI u_1) (rm := zr0) cx (fun _ hq => tM_isBroken hq) d_X12_isLoose_2 5 rfl kk_X12_isBroken q_1610 q_1612 q_68 rfl e_M rfl ⟨rfl, rfl⟩ ⟨Nat.le_of_ble_eq_true rfl, Nat.le_of_ble_eq_true rfl⟩ rfl rfl (Nat.le_of_ble_eq_true rfl) ⟨Nat.zero_le _, Nat.zero_le _⟩ h (fun u_1 h => ?_)
  refine kf1_f (P := fun (w0_2 : Int) => V p l e zrM_isLoose s m args below meth c A s.heap g 2 Q (wM g M) 0 0 [] 22 [.int (zI w0_2)]) h (fun w0_2 h => ?_) (fun k_3 hk_3 h => ?_)
  · obtain ⟨hz, h⟩ := zo_i h
    subst hQ
    obtain rfl := Option.some.inj h
    exact z_zret cx d_X12_isLoose_22 (zb01 hz) rfl rfl
  refine kf0_f (P := V p l e zrM_isLoose s m args below meth c A s.heap g 2 Q (wM g M) 0 0 [] 21 []) h (fun h => ?_) (fun k_4 hk_4 h => ?_)
  · refine y_iconst cx d_X12_isLoose_21 22 rfl ?_
    exact hk_3 _ h
  refine y_if_ne cx d_X12_isLoose_5 8 rfl 21 (by decide) rfl h (fun h => ?_) (fun h => ?_)
  · refine z_sub [] rfl ?_
    exact hk_4  h
  · refine z_aload_n cx d_X12_isLoose_8 9 rfl rfl 0 rfl ?_
    refine z_iload_n cx d_X12_isLoose_9 10 rfl rfl 1 rfl ?_
    refine y_callV_i (As := [.int (zI a1)]) (rest := []) (W := fun u_5 => wM g M) (rf := fun u_5 => zI u_5) (rm := zr0) cx (fun _ hq => tM_lies hq) d_X12_isLoose_10 13 rfl kk_X12_lies q_1586 q_1588 q_64 rfl e_M rfl ⟨rfl, rfl⟩ ⟨Nat.le_of_ble_eq_true rfl, Nat.le_of_ble_eq_true rfl⟩ rfl rfl (Nat.le_of_ble_eq_true rfl) ⟨Nat.zero_le _, Nat.zero_le _⟩ h (fun u_5 h => ?_)
    refine y_iconst cx d_X12_isLoose_13 14 rfl ?_
    refine y_icmp_ne cx d_X12_isLoose_14 17 rfl 21 (by decide) rfl (nm_eq (x := (-1)) (by decide) (by decide)) h (fun h => ?_) (fun h => ?_)
    · refine z_sub [] rfl ?_
      exact hk_4  h
    · refine y_iconst cx d_X12_isLoose_17 18 rfl ?_
      refine z_goto cx d_X12_isLoose_18 22 (by decide) ?_
      refine z_sub [] rfl ?_
      exact hk_3 _ h
def zrM_laysRings : Room := { frames := 3, cells := 0, slots := 0, locals := 72 }
set_option maxHeartbeats 4000000 in
theorem tM_laysRings {l : Launch} {g : ZG} {M : ZB}  {r : ZB} (h : fM_laysRings M = some r) : zMv l yX12_laysRings cX12_laysRings 3 none zrM_laysRings g [.ref (g.2.2 0)] (wM g M) (wM g r) := by
  unfold fM_laysRings at h
  refine zMv_q (own := RX12) rfl (by decide +kernel) (Nat.le_of_ble_eq_true rfl) (lv := [(0, .ref (g.2.2 0))]) rfl ⟨rfl, rfl⟩ ?_
  intro p e s m args below meth c A Q hQ cx
  refine y_iconst cx d_X12_laysRings_0 1 rfl ?_
  refine y_istore_n cx d_X12_laysRings_1 2 rfl rfl (by decide) (lv' := [(1, .int (zI 0)), (0, .ref (g.2.2 0))]) rfl ?_
  refine z_sub [1, 0] rfl ?_
  refine lop2_f (P := fun (v1_1 : Int) (M_2 : ZB) => V p l e zrM_laysRings s m args below meth c A s.heap g 3 Q (wM g M_2) 0 0 [(0, .ref (g.2.2 0)), (1, .int (zI v1_1))] 2 []) (fun rec_3 hrec_3 v1_1 M_2 h => ?_) _ _ _ h
  refine z_iload_n cx d_X12_laysRings_2 3 rfl rfl 1 rfl ?_
  refine z_aload_n cx d_X12_laysRings_3 4 rfl rfl 0 rfl ?_
  refine y_callV_i (As := []) (rest := [.int (zI v1_1)]) (W := fun u_4 => wM g M_2) (rf := fun u_4 => zI u_4) (rm := zr0) cx (fun _ hq => tM_lines hq) d_X12_laysRings_4 7 rfl kk_X12_lines q_1582 q_1584 q_63 rfl e_M rfl ⟨rfl, rfl⟩ ⟨Nat.le_of_ble_eq_true rfl, Nat.le_of_ble_eq_true rfl⟩ rfl rfl (Nat.le_of_ble_eq_true rfl) ⟨Nat.zero_le _, Nat.zero_le _⟩ h (fun u_4 h => ?_)
  refine y_icmp_ge cx d_X12_laysRings_7 10 rfl 73 (by decide) rfl rfl h (fun h => ?_) (fun h => ?_)
  · subst hQ
    obtain rfl := Option.some.inj h
    exact z_vret cx d_X12_laysRings_73 rfl
  · refine y_iconst cx d_X12_laysRings_10 11 rfl ?_
    refine y_istore_n cx d_X12_laysRings_11 12 rfl rfl (by decide) (lv' := [(2, .int (zI 0)), (0, .ref (g.2.2 0)), (1, .int (zI v1_1))]) rfl ?_
    refine z_sub [1, 2, 0] rfl ?_
    refine lop2_f (P := fun (v2_5 : Int) (M_6 : ZB) => V p l e zrM_laysRings s m args below meth c A s.heap g 3 Q (wM g M_6) 0 0 [(0, .ref (g.2.2 0)), (1, .int (zI v1_1)), (2, .int (zI v2_5))] 12 []) (fun rec_7 hrec_7 v2_5 M_6 h => ?_) _ _ _ h
    refine z_iload_n cx d_X12_laysRings_12 13 rfl rfl 2 rfl ?_
    refine z_aload_n cx d_X12_laysRings_13 14 rfl rfl 0 rfl ?_
    refine y_callV_i (As := []) (rest := [.int (zI v2_5)]) (W := fun u_8 => wM g M_6) (rf := fun u_8 => zI u_8) (rm := zr0) cx (fun _ hq => tM_many hq) d_X12_laysRings_14 17 rfl kk_X12_many q_1574 q_1576 q_61 rfl e_M rfl ⟨rfl, rfl⟩ ⟨Nat.le_of_ble_eq_true rfl, Nat.le_of_ble_eq_true rfl⟩ rfl rfl (Nat.le_of_ble_eq_true rfl) ⟨Nat.zero_le _, Nat.zero_le _⟩ h (fun u_8 h => ?_)
    refine y_icmp_ge cx d_X12_laysRings_17 20 rfl 67 (by decide) rfl rfl h (fun h => ?_) (fun h => ?_)
    · refine y_iinc cx 1 d_X12_laysRings_67 70 rfl rfl (by decide) (lv' := [(1, .int (zI (v1_1 + 1))), (0, .ref (g.2.2 0)), (2, .int (zI v2_5))]) rfl ?_
      refine z_goto cx d_X12_laysRings_70 2 (by decide) ?_
      refine z_sub [1, 0] rfl ?_
      exact hrec_3 _ _ h
    · refine z_aload_n cx d_X12_laysRings_20 21 rfl rfl 0 rfl ?_
      refine z_get cx d_X12_laysRings_21 24 rfl e_M rfl zX12 22 (by decide) q_1383 rfl rfl ?_
      refine y_iconst cx d_X12_laysRings_24 25 rfl ?_
      refine z_iload_n cx d_X12_laysRings_25 26 rfl rfl 1 rfl ?_
      refine y_imul cx d_X12_laysRings_26 27 rfl ?_
      refine z_iload_n cx d_X12_laysRings_27 28 rfl rfl 2 rfl ?_
      refine y_iadd cx d_X12_laysRings_28 29 rfl ?_
      refine z_aload_n cx d_X12_laysRings_29 30 rfl rfl 0 rfl ?_
      refine z_iload_n cx d_X12_laysRings_30 31 rfl rfl 1 rfl ?_
      refine y_callV_i (As := [.int (zI v1_1)]) (rest := [.int (zI ((5 * v1_1) + v2_5)), .ref (g.2.2 11)]) (W := fun u_9 => wM g M_6) (rf := fun u_9 => zI u_9) (rm := zr0) cx (fun _ hq => tM_lies hq) d_X12_laysRings_31 34 rfl kk_X12_lies q_1586 q_1588 q_64 rfl e_M rfl ⟨rfl, rfl⟩ ⟨Nat.le_of_ble_eq_true rfl, Nat.le_of_ble_eq_true rfl⟩ rfl rfl (Nat.le_of_ble_eq_true rfl) ⟨Nat.zero_le _, Nat.zero_le _⟩ h (fun u_9 h => ?_)
      refine z_iload_n cx d_X12_laysRings_34 35 rfl rfl 2 rfl ?_
      refine kf1_f (P := fun (w2_10 : Int) => V p l e zrM_laysRings s m args below meth c A s.heap g 3 Q (wM g M_6) 0 0 [(0, .ref (g.2.2 0)), (1, .int (zI v1_1)), (2, .int (zI v2_5))] 60 [.int (zI w2_10), .int (zI ((5 * v1_1) + v2_5)), .ref (g.2.2 11)]) h (fun w2_10 h => ?_) (fun k_11 hk_11 h => ?_)
      · refine y_iast cx d_X12_laysRings_60 61 rfl e_M_ringOf (by decide) h (fun _ h9 => s_M_ringOf h9) (fun M_12 h => ?_)
        refine y_iinc cx 2 d_X12_laysRings_61 64 rfl rfl (by decide) (lv' := [(2, .int (zI (v2_5 + 1))), (0, .ref (g.2.2 0)), (1, .int (zI v1_1))]) rfl ?_
        refine z_goto cx d_X12_laysRings_64 12 (by decide) ?_
        refine z_sub [1, 2, 0] rfl ?_
        exact hrec_7 _ _ h
      refine kf0_f (P := V p l e zrM_laysRings s m args below meth c A s.heap g 3 Q (wM g M_6) 0 0 [(0, .ref (g.2.2 0)), (1, .int (zI v1_1)), (2, .int (zI v2_5))] 46 [.int (zI ((5 * v1_1) + v2_5)), .ref (g.2.2 11)]) h (fun h => ?_) (fun k_13 hk_13 h => ?_)
      · refine y_iconst cx d_X12_laysRings_46 47 rfl ?_
        refine z_goto cx d_X12_laysRings_47 60 (by decide) ?_
        exact hk_11 _ h
      refine y_icmp_eq cx d_X12_laysRings_35 38 rfl 46 (by decide) rfl rfl h (fun h => ?_) (fun h => ?_)
      · exact hk_13  h
      · refine z_aload_n cx d_X12_laysRings_38 39 rfl rfl 0 rfl ?_
        refine z_iload_n cx d_X12_laysRings_39 40 rfl rfl 1 rfl ?_
        refine y_callV_i (As := [.int (zI v1_1)]) (rest := [.int (zI ((5 * v1_1) + v2_5)), .ref (g.2.2 11)]) (W := fun u_14 => wM g M_6) (rf := fun u_14 => zI u_14) (rm := zr0) cx (fun _ hq => tM_isBroken hq) d_X12_laysRings_40 43 rfl kk_X12_isBroken q_1610 q_1612 q_68 rfl e_M rfl ⟨rfl, rfl⟩ ⟨Nat.le_of_ble_eq_true rfl, Nat.le_of_ble_eq_true rfl⟩ rfl rfl (Nat.le_of_ble_eq_true rfl) ⟨Nat.zero_le _, Nat.zero_le _⟩ h (fun u_14 h => ?_)
        refine y_if_eq cx d_X12_laysRings_43 46 rfl 50 (by decide) rfl h (fun h => ?_) (fun h => ?_)
        · refine z_aload_n cx d_X12_laysRings_50 51 rfl rfl 0 rfl ?_
          refine z_iload_n cx d_X12_laysRings_51 52 rfl rfl 1 rfl ?_
          refine z_aload_n cx d_X12_laysRings_52 53 rfl rfl 0 rfl ?_
          refine z_iload_n cx d_X12_laysRings_53 54 rfl rfl 2 rfl ?_
          refine y_callV_i (As := [.int (zI v2_5)]) (rest := [.int (zI v1_1), .ref (g.2.2 0), .int (zI ((5 * v1_1) + v2_5)), .ref (g.2.2 11)]) (W := fun u_15 => wM g M_6) (rf := fun u_15 => zI u_15) (rm := zrM_inForest) cx (fun _ hq => tM_inForest hq) d_X12_laysRings_54 57 rfl kk_X12_inForest q_1614 q_1616 q_69 rfl e_M rfl ⟨rfl, rfl⟩ ⟨Nat.le_of_ble_eq_true rfl, Nat.le_of_ble_eq_true rfl⟩ rfl rfl (Nat.le_of_ble_eq_true rfl) ⟨Nat.zero_le _, Nat.zero_le _⟩ h (fun u_15 h => ?_)
          refine y_callV_i (As := [.int (zI v1_1), .int (zI u_15)]) (rest := [.int (zI ((5 * v1_1) + v2_5)), .ref (g.2.2 11)]) (W := fun u_16 => wM g M_6) (rf := fun u_16 => zI u_16) (rm := zrM_ringIn) cx (fun _ hq => tM_ringIn hq) d_X12_laysRings_57 60 rfl kk_X12_ringIn q_1618 q_1620 q_70 rfl e_M rfl ⟨rfl, rfl⟩ ⟨Nat.le_of_ble_eq_true rfl, Nat.le_of_ble_eq_true rfl⟩ rfl rfl (Nat.le_of_ble_eq_true rfl) ⟨Nat.zero_le _, Nat.zero_le _⟩ h (fun u_16 h => ?_)
          exact hk_11 _ h
        · exact hk_13  h
def zrM_freeForest : Room := { frames := 1, cells := 0, slots := 0, locals := 21 }
set_option maxHeartbeats 4000000 in
theorem tM_freeForest {l : Launch} {g : ZG} {M : ZB} {a1 : Int} {r : Int} (h : fM_freeForest M a1 = some r) : zMi l yX12_freeForest cX12_freeForest 3 (some .int) zrM_freeForest g [.ref (g.2.2 0), .int (zI a1)] (wM g M) (wM g M) (zI r) := by
  unfold fM_freeForest at h
  refine zMi_q (own := RX12) rfl (by decide +kernel) (Nat.le_of_ble_eq_true rfl) (lv := [(0, .ref (g.2.2 0)), (1, .int (zI a1))]) rfl ⟨rfl, rfl⟩ ?_
  intro p e s m args below meth c A Q hQ cx
  refine y_iconst cx d_X12_freeForest_0 1 rfl ?_
  refine y_istore_n cx d_X12_freeForest_1 2 rfl rfl (by decide) (lv' := [(2, .int (zI 0)), (0, .ref (g.2.2 0)), (1, .int (zI a1))]) rfl ?_
  refine z_sub [1, 2, 0] rfl ?_
  refine lop1_f (P := fun (v2_1 : Int) => V p l e zrM_freeForest s m args below meth c A s.heap g 3 Q (wM g M) 0 0 [(0, .ref (g.2.2 0)), (1, .int (zI a1)), (2, .int (zI v2_1))] 2 []) (fun rec_2 hrec_2 v2_1 h => ?_) _ _ h
  refine z_iload_n cx d_X12_freeForest_2 3 rfl rfl 2 rfl ?_
  refine z_aload_n cx d_X12_freeForest_3 4 rfl rfl 0 rfl ?_
  refine y_callV_i (As := []) (rest := [.int (zI v2_1)]) (W := fun u_3 => wM g M) (rf := fun u_3 => zI u_3) (rm := zr0) cx (fun _ hq => tM_many hq) d_X12_freeForest_4 7 rfl kk_X12_many q_1574 q_1576 q_61 rfl e_M rfl ⟨rfl, rfl⟩ ⟨Nat.le_of_ble_eq_true rfl, Nat.le_of_ble_eq_true rfl⟩ rfl rfl (Nat.le_of_ble_eq_true rfl) ⟨Nat.zero_le _, Nat.zero_le _⟩ h (fun u_3 h => ?_)
  refine y_icmp_ge cx d_X12_freeForest_7 10 rfl 40 (by decide) rfl rfl h (fun h => ?_) (fun h => ?_)
  · refine y_iconst cx d_X12_freeForest_40 41 rfl ?_
    subst hQ
    obtain rfl := Option.some.inj h
    exact z_iret cx d_X12_freeForest_41 rfl rfl
  · refine z_aload_n cx d_X12_freeForest_10 11 rfl rfl 0 rfl ?_
    refine z_iload_n cx d_X12_freeForest_11 12 rfl rfl 1 rfl ?_
    refine y_callV_i (As := [.int (zI a1)]) (rest := []) (W := fun u_4 => wM g M) (rf := fun u_4 => zI u_4) (rm := zr0) cx (fun _ hq => tM_lies hq) d_X12_freeForest_12 15 rfl kk_X12_lies q_1586 q_1588 q_64 rfl e_M rfl ⟨rfl, rfl⟩ ⟨Nat.le_of_ble_eq_true rfl, Nat.le_of_ble_eq_true rfl⟩ rfl rfl (Nat.le_of_ble_eq_true rfl) ⟨Nat.zero_le _, Nat.zero_le _⟩ h (fun u_4 h => ?_)
    refine z_iload_n cx d_X12_freeForest_15 16 rfl rfl 2 rfl ?_
    refine kf0_f (P := V p l e zrM_freeForest s m args below meth c A s.heap g 3 Q (wM g M) 0 0 [(0, .ref (g.2.2 0)), (1, .int (zI a1)), (2, .int (zI v2_1))] 34 []) h (fun h => ?_) (fun k_5 hk_5 h => ?_)
    · refine y_iinc cx 2 d_X12_freeForest_34 37 rfl rfl (by decide) (lv' := [(2, .int (zI (v2_1 + 1))), (0, .ref (g.2.2 0)), (1, .int (zI a1))]) rfl ?_
      refine z_goto cx d_X12_freeForest_37 2 (by decide) ?_
      refine z_sub [1, 2, 0] rfl ?_
      exact hrec_2 _ h
    refine y_icmp_eq cx d_X12_freeForest_16 19 rfl 34 (by decide) rfl rfl h (fun h => ?_) (fun h => ?_)
    · exact hk_5  h
    · refine z_aload_n cx d_X12_freeForest_19 20 rfl rfl 0 rfl ?_
      refine z_get cx d_X12_freeForest_20 23 rfl e_M rfl zX12 22 (by decide) q_1383 rfl rfl ?_
      refine y_iconst cx d_X12_freeForest_23 24 rfl ?_
      refine z_iload_n cx d_X12_freeForest_24 25 rfl rfl 1 rfl ?_
      refine y_imul cx d_X12_freeForest_25 26 rfl ?_
      refine z_iload_n cx d_X12_freeForest_26 27 rfl rfl 2 rfl ?_
      refine y_iadd cx d_X12_freeForest_27 28 rfl ?_
      refine y_ialdx cx d_X12_freeForest_28 29 rfl e_M_ringOf (by decide) h (fun x_6 h => ?_)
      refine y_if_ne cx d_X12_freeForest_29 32 rfl 34 (by decide) rfl h (fun h => ?_) (fun h => ?_)
      · exact hk_5  h
      · refine z_iload_n cx d_X12_freeForest_32 33 rfl rfl 2 rfl ?_
        subst hQ
        obtain rfl := Option.some.inj h
        exact z_iret cx d_X12_freeForest_33 rfl rfl
def zrM_nextTo : Room := { frames := 1, cells := 0, slots := 0, locals := 20 }
set_option maxHeartbeats 4000000 in
theorem tM_nextTo {l : Launch} {g : ZG} {M : ZB} {a1 : Int} {r : Int} (h : fM_nextTo M a1 = some r) : zMi l yX12_nextTo cX12_nextTo 4 (some .int) zrM_nextTo g [.ref (g.2.2 0), .int (zI a1)] (wM g M) (wM g M) (zI r) := by
  unfold fM_nextTo at h
  refine zMi_q (own := RX12) rfl (by decide +kernel) (Nat.le_of_ble_eq_true rfl) (lv := [(0, .ref (g.2.2 0)), (1, .int (zI a1))]) rfl ⟨rfl, rfl⟩ ?_
  intro p e s m args below meth c A Q hQ cx
  refine y_iconst cx d_X12_nextTo_0 1 rfl ?_
  refine y_istore_n cx d_X12_nextTo_1 2 rfl rfl (by decide) (lv' := [(2, .int (zI 0)), (0, .ref (g.2.2 0)), (1, .int (zI a1))]) rfl ?_
  refine y_iconst cx d_X12_nextTo_2 3 rfl ?_
  refine y_istore_n cx d_X12_nextTo_3 4 rfl rfl (by decide) (lv' := [(3, .int (zI 0)), (2, .int (zI 0)), (0, .ref (g.2.2 0)), (1, .int (zI a1))]) rfl ?_
  refine z_sub [2, 3, 1, 0] rfl ?_
  refine lop2_f (P := fun (v2_1 : Int) (v3_2 : Int) => V p l e zrM_nextTo s m args below meth c A s.heap g 4 Q (wM g M) 0 0 [(0, .ref (g.2.2 0)), (1, .int (zI a1)), (2, .int (zI v2_1)), (3, .int (zI v3_2))] 4 []) (fun rec_3 hrec_3 v2_1 v3_2 h => ?_) _ _ _ h
  refine z_iload_n cx d_X12_nextTo_4 5 rfl rfl 3 rfl ?_
  refine z_aload_n cx d_X12_nextTo_5 6 rfl rfl 0 rfl ?_
  refine y_callV_i (As := []) (rest := [.int (zI v3_2)]) (W := fun u_4 => wM g M) (rf := fun u_4 => zI u_4) (rm := zr0) cx (fun _ hq => tM_many hq) d_X12_nextTo_6 9 rfl kk_X12_many q_1574 q_1576 q_61 rfl e_M rfl ⟨rfl, rfl⟩ ⟨Nat.le_of_ble_eq_true rfl, Nat.le_of_ble_eq_true rfl⟩ rfl rfl (Nat.le_of_ble_eq_true rfl) ⟨Nat.zero_le _, Nat.zero_le _⟩ h (fun u_4 h => ?_)
  refine y_icmp_ge cx d_X12_nextTo_9 12 rfl 31 (by decide) rfl rfl h (fun h => ?_) (fun h => ?_)
  · refine z_iload_n cx d_X12_nextTo_31 32 rfl rfl 2 rfl ?_
    subst hQ
    obtain rfl := Option.some.inj h
    exact z_iret cx d_X12_nextTo_32 rfl rfl
  · refine z_iload_n cx d_X12_nextTo_12 13 rfl rfl 2 rfl ?_
    refine z_aload_n cx d_X12_nextTo_13 14 rfl rfl 0 rfl ?_
    refine z_get cx d_X12_nextTo_14 17 rfl e_M rfl zX12 22 (by decide) q_1383 rfl rfl ?_
    refine y_iconst cx d_X12_nextTo_17 18 rfl ?_
    refine z_iload_n cx d_X12_nextTo_18 19 rfl rfl 1 rfl ?_
    refine y_imul cx d_X12_nextTo_19 20 rfl ?_
    refine z_iload_n cx d_X12_nextTo_20 21 rfl rfl 3 rfl ?_
    refine y_iadd cx d_X12_nextTo_21 22 rfl ?_
    refine y_ialdx cx d_X12_nextTo_22 23 rfl e_M_ringOf (by decide) h (fun x_5 h => ?_)
    refine y_ior cx d_X12_nextTo_23 24 rfl ?_
    refine y_istore_n_b cx d_X12_nextTo_24 25 rfl rfl (by decide) (fun y => [(2, .int (zI y)), (0, .ref (g.2.2 0)), (1, .int (zI a1)), (3, .int (zI v3_2))]) (fun y => rfl) h (fun v2_6 h => ?_)
    refine y_iinc cx 3 d_X12_nextTo_25 28 rfl rfl (by decide) (lv' := [(3, .int (zI (v3_2 + 1))), (2, .int (zI v2_6)), (0, .ref (g.2.2 0)), (1, .int (zI a1))]) rfl ?_
    refine z_goto cx d_X12_nextTo_28 4 (by decide) ?_
    refine z_sub [2, 3, 1, 0] rfl ?_
    exact hrec_3 _ _ h
def zrM_laysCrowd : Room := { frames := 2, cells := 0, slots := 0, locals := 43 }
set_option maxHeartbeats 4000000 in
theorem tM_laysCrowd {l : Launch} {g : ZG} {M : ZB} {a1 : Int} {r : Int × ZB} (h : fM_laysCrowd M a1 = some r) : zMi l yX12_laysCrowd cX12_laysCrowd 5 (some .int) zrM_laysCrowd g [.ref (g.2.2 0), .int (zI a1)] (wM g M) (wM g r.2) (zI r.1) := by
  unfold fM_laysCrowd at h
  refine zMi_q (own := RX12) rfl (by decide +kernel) (Nat.le_of_ble_eq_true rfl) (lv := [(0, .ref (g.2.2 0)), (1, .int (zI a1))]) rfl ⟨rfl, rfl⟩ ?_
  intro p e s m args below meth c A Q hQ cx
  refine y_iconst cx d_X12_laysCrowd_0 1 rfl ?_
  refine z_iload_n cx d_X12_laysCrowd_1 2 rfl rfl 1 rfl ?_
  refine y_ishl cx d_X12_laysCrowd_2 3 rfl ?_
  refine y_istore_n_b cx d_X12_laysCrowd_3 4 rfl rfl (by decide) (fun y => [(2, .int (zI y)), (0, .ref (g.2.2 0)), (1, .int (zI a1))]) (fun y => rfl) h (fun v2_1 h => ?_)
  refine y_iconst cx d_X12_laysCrowd_4 5 rfl ?_
  refine y_istore_n cx d_X12_laysCrowd_5 6 rfl rfl (by decide) (lv' := [(3, .int (zI 0)), (2, .int (zI v2_1)), (0, .ref (g.2.2 0)), (1, .int (zI a1))]) rfl ?_
  refine z_sub [2, 1, 0] rfl ?_
  refine lop2_f (P := fun (v2_2 : Int) (v3_3 : Int) => V p l e zrM_laysCrowd s m args below meth c A s.heap g 5 Q (wM g M) 0 0 [(0, .ref (g.2.2 0)), (2, .int (zI v2_2)), (3, .int (zI v3_3))] 6 []) (fun rec_4 hrec_4 v2_2 v3_3 h => ?_) _ _ _ h
  refine z_iload_n cx d_X12_laysCrowd_6 7 rfl rfl 1 rfl ?_
  refine z_iload_n cx d_X12_laysCrowd_7 8 rfl rfl 2 rfl ?_
  refine y_icmp_eq cx d_X12_laysCrowd_8 11 rfl 52 (by decide) rfl rfl h (fun h => ?_) (fun h => ?_)
  · refine z_aload_n cx d_X12_laysCrowd_52 53 rfl rfl 0 rfl ?_
    refine y_iconst cx d_X12_laysCrowd_53 54 rfl ?_
    refine y_put cx d_X12_laysCrowd_54 57 rfl e_M rfl zX12 tyX12_ok nmX12 26 (by decide) q_1387 rfl rfl rfl rfl (Nat.le_of_ble_eq_true rfl) h (fun _ h9 => s_M_26 h9) (fun M_5 h => ?_)
    refine y_iconst cx d_X12_laysCrowd_57 58 rfl ?_
    refine y_istore cx d_X12_laysCrowd_58 60 rfl (by decide) (lv' := [(4, .int (zI 0)), (0, .ref (g.2.2 0)), (2, .int (zI v2_2)), (3, .int (zI v3_3))]) rfl ?_
    refine z_sub [1, 2, 0] rfl ?_
    refine lop2_f (P := fun (v4_6 : Int) (M_7 : ZB) => V p l e zrM_laysCrowd s m args below meth c A s.heap g 5 Q (wM g M_7) 0 0 [(0, .ref (g.2.2 0)), (2, .int (zI v2_2)), (4, .int (zI v4_6))] 60 []) (fun rec_8 hrec_8 v4_6 M_7 h => ?_) _ _ _ h
    refine z_iload cx d_X12_laysCrowd_60 62 rfl 2 rfl ?_
    refine z_aload_n cx d_X12_laysCrowd_62 63 rfl rfl 0 rfl ?_
    refine y_callV_i (As := []) (rest := [.int (zI v4_6)]) (W := fun u_9 => wM g M_7) (rf := fun u_9 => zI u_9) (rm := zr0) cx (fun _ hq => tM_lines hq) d_X12_laysCrowd_63 66 rfl kk_X12_lines q_1582 q_1584 q_63 rfl e_M rfl ⟨rfl, rfl⟩ ⟨Nat.le_of_ble_eq_true rfl, Nat.le_of_ble_eq_true rfl⟩ rfl rfl (Nat.le_of_ble_eq_true rfl) ⟨Nat.zero_le _, Nat.zero_le _⟩ h (fun u_9 h => ?_)
    refine y_icmp_ge cx d_X12_laysCrowd_66 69 rfl 99 (by decide) rfl rfl h (fun h => ?_) (fun h => ?_)
    · refine y_iconst cx d_X12_laysCrowd_99 100 rfl ?_
      subst hQ
      obtain rfl := Option.some.inj h
      exact z_iret cx d_X12_laysCrowd_100 rfl rfl
    · refine z_iload_n cx d_X12_laysCrowd_69 70 rfl rfl 1 rfl ?_
      refine z_iload cx d_X12_laysCrowd_70 72 rfl 2 rfl ?_
      refine y_callS_i (As := [.int (zI v2_2), .int (zI v4_6)]) (rest := []) (W := fun u_10 => wM g M_7) (rf := fun u_10 => zI u_10) (rm := zr0) cx (fun _ hq => tM_has hq) d_X12_laysCrowd_72 75 rfl kk_X12_has q_1626 q_1627 ⟨rfl, rfl⟩ ⟨Nat.le_of_ble_eq_true rfl, Nat.le_of_ble_eq_true rfl⟩ rfl rfl (Nat.le_of_ble_eq_true rfl) ⟨Nat.zero_le _, Nat.zero_le _⟩ h (fun u_10 h => ?_)
      refine kf1_f (P := fun (M_11 : ZB) => V p l e zrM_laysCrowd s m args below meth c A s.heap g 5 Q (wM g M_11) 0 0 [(0, .ref (g.2.2 0)), (2, .int (zI v2_2)), (4, .int (zI v4_6))] 93 []) h (fun M_11 h => ?_) (fun k_12 hk_12 h => ?_)
      · refine y_iinc cx 2 d_X12_laysCrowd_93 96 rfl rfl (by decide) (lv' := [(4, .int (zI (v4_6 + 1))), (0, .ref (g.2.2 0)), (2, .int (zI v2_2))]) rfl ?_
        refine z_goto cx d_X12_laysCrowd_96 60 (by decide) ?_
        refine z_sub [1, 2, 0] rfl ?_
        exact hrec_8 _ _ h
      refine y_if_eq cx d_X12_laysCrowd_75 78 rfl 93 (by decide) rfl h (fun h => ?_) (fun h => ?_)
      · exact hk_12 _ h
      · refine z_aload_n cx d_X12_laysCrowd_78 79 rfl rfl 0 rfl ?_
        refine z_dup cx d_X12_laysCrowd_79 80 rfl rfl ?_
        refine z_get cx d_X12_laysCrowd_80 83 rfl e_M rfl zX12 26 (by decide) q_1387 rfl rfl ?_
        refine z_aload_n cx d_X12_laysCrowd_83 84 rfl rfl 0 rfl ?_
        refine z_iload cx d_X12_laysCrowd_84 86 rfl 2 rfl ?_
        refine y_callV_i (As := [.int (zI v4_6)]) (rest := [.int (zI (M_7.1 26)), .ref (g.2.2 0)]) (W := fun u_13 => wM g M_7) (rf := fun u_13 => zI u_13) (rm := zr0) cx (fun _ hq => tM_ends hq) d_X12_laysCrowd_86 89 rfl kk_X12_ends q_1629 q_1631 q_72 rfl e_M rfl ⟨rfl, rfl⟩ ⟨Nat.le_of_ble_eq_true rfl, Nat.le_of_ble_eq_true rfl⟩ rfl rfl (Nat.le_of_ble_eq_true rfl) ⟨Nat.zero_le _, Nat.zero_le _⟩ h (fun u_13 h => ?_)
        refine y_ior cx d_X12_laysCrowd_89 90 rfl ?_
        refine y_put cx d_X12_laysCrowd_90 93 rfl e_M rfl zX12 tyX12_ok nmX12 26 (by decide) q_1387 rfl rfl rfl rfl (Nat.le_of_ble_eq_true rfl) h (fun _ h9 => s_M_26 h9) (fun M_14 h => ?_)
        exact hk_12 _ h
  · refine z_iload_n cx d_X12_laysCrowd_11 12 rfl rfl 1 rfl ?_
    refine y_istore_n cx d_X12_laysCrowd_12 13 rfl rfl (by decide) (lv' := [(3, .int (zI v2_2)), (0, .ref (g.2.2 0)), (2, .int (zI v2_2))]) rfl ?_
    refine y_iconst cx d_X12_laysCrowd_13 14 rfl ?_
    refine y_istore cx d_X12_laysCrowd_14 16 rfl (by decide) (lv' := [(4, .int (zI 0)), (3, .int (zI v2_2)), (0, .ref (g.2.2 0)), (2, .int (zI v2_2))]) rfl ?_
    refine z_sub [2, 3, 1, 0] rfl ?_
    refine lop2_f (P := fun (v2_15 : Int) (v4_16 : Int) => V p l e zrM_laysCrowd s m args below meth c A s.heap g 5 Q (wM g M) 0 0 [(0, .ref (g.2.2 0)), (2, .int (zI v2_15)), (3, .int (zI v2_2)), (4, .int (zI v4_16))] 16 []) (fun rec_17 hrec_17 v2_15 v4_16 h => ?_) _ _ _ h
    refine z_iload cx d_X12_laysCrowd_16 18 rfl 3 rfl ?_
    refine z_aload_n cx d_X12_laysCrowd_18 19 rfl rfl 0 rfl ?_
    refine y_callV_i (As := []) (rest := [.int (zI v4_16)]) (W := fun u_18 => wM g M) (rf := fun u_18 => zI u_18) (rm := zr0) cx (fun _ hq => tM_lines hq) d_X12_laysCrowd_19 22 rfl kk_X12_lines q_1582 q_1584 q_63 rfl e_M rfl ⟨rfl, rfl⟩ ⟨Nat.le_of_ble_eq_true rfl, Nat.le_of_ble_eq_true rfl⟩ rfl rfl (Nat.le_of_ble_eq_true rfl) ⟨Nat.zero_le _, Nat.zero_le _⟩ h (fun u_18 h => ?_)
    refine y_icmp_ge cx d_X12_laysCrowd_22 25 rfl 49 (by decide) rfl rfl h (fun h => ?_) (fun h => ?_)
    · refine z_goto cx d_X12_laysCrowd_49 6 (by decide) ?_
      refine z_sub [0, 1, 2] rfl ?_
      exact hrec_4 _ _ h
    · refine z_iload_n cx d_X12_laysCrowd_25 26 rfl rfl 2 rfl ?_
      refine z_iload cx d_X12_laysCrowd_26 28 rfl 3 rfl ?_
      refine y_callS_i (As := [.int (zI v2_2), .int (zI v4_16)]) (rest := []) (W := fun u_19 => wM g M) (rf := fun u_19 => zI u_19) (rm := zr0) cx (fun _ hq => tM_has hq) d_X12_laysCrowd_28 31 rfl kk_X12_has q_1626 q_1627 ⟨rfl, rfl⟩ ⟨Nat.le_of_ble_eq_true rfl, Nat.le_of_ble_eq_true rfl⟩ rfl rfl (Nat.le_of_ble_eq_true rfl) ⟨Nat.zero_le _, Nat.zero_le _⟩ h (fun u_19 h => ?_)
      refine kf1_f (P := fun (v2_20 : Int) => V p l e zrM_laysCrowd s m args below meth c A s.heap g 5 Q (wM g M) 0 0 [(0, .ref (g.2.2 0)), (2, .int (zI v2_20)), (3, .int (zI v2_2)), (4, .int (zI v4_16))] 43 []) h (fun v2_20 h => ?_) (fun k_21 hk_21 h => ?_)
      · refine y_iinc cx 3 d_X12_laysCrowd_43 46 rfl rfl (by decide) (lv' := [(4, .int (zI (v4_16 + 1))), (0, .ref (g.2.2 0)), (2, .int (zI v2_20)), (3, .int (zI v2_2))]) rfl ?_
        refine z_goto cx d_X12_laysCrowd_46 16 (by decide) ?_
        refine z_sub [1, 2, 3, 0] rfl ?_
        exact hrec_17 _ _ h
      refine y_if_eq cx d_X12_laysCrowd_31 34 rfl 43 (by decide) rfl h (fun h => ?_) (fun h => ?_)
      · exact hk_21 _ h
      · refine z_iload_n cx d_X12_laysCrowd_34 35 rfl rfl 1 rfl ?_
        refine z_aload_n cx d_X12_laysCrowd_35 36 rfl rfl 0 rfl ?_
        refine z_iload cx d_X12_laysCrowd_36 38 rfl 3 rfl ?_
        refine y_callV_i (As := [.int (zI v4_16)]) (rest := [.int (zI v2_15)]) (W := fun u_22 => wM g M) (rf := fun u_22 => zI u_22) (rm := zrM_nextTo) cx (fun _ hq => tM_nextTo hq) d_X12_laysCrowd_38 41 rfl kk_X12_nextTo q_1692 q_1694 q_82 rfl e_M rfl ⟨rfl, rfl⟩ ⟨Nat.le_of_ble_eq_true rfl, Nat.le_of_ble_eq_true rfl⟩ rfl rfl (Nat.le_of_ble_eq_true rfl) ⟨Nat.zero_le _, Nat.zero_le _⟩ h (fun u_22 h => ?_)
        refine y_ior cx d_X12_laysCrowd_41 42 rfl ?_
        refine y_istore_n_b cx d_X12_laysCrowd_42 43 rfl rfl (by decide) (fun y => [(2, .int (zI y)), (0, .ref (g.2.2 0)), (3, .int (zI v2_2)), (4, .int (zI v4_16))]) (fun y => rfl) h (fun v2_23 h => ?_)
        refine z_sub [1, 0, 2, 3] rfl ?_
        exact hk_21 _ h
def zrM_laysChain : Room := { frames := 4, cells := 0, slots := 0, locals := 94 }
set_option maxHeartbeats 4000000 in
theorem tM_laysChain {l : Launch} {g : ZG} {M : ZB} {a1 : Int} {r : Int × ZB} (h : fM_laysChain M a1 = some r) : zMi l yX12_laysChain cX12_laysChain 5 (some .int) zrM_laysChain g [.ref (g.2.2 0), .int (zI a1)] (wM g M) (wM g r.2) (zI r.1) := by
  unfold fM_laysChain at h
  refine zMi_q (own := RX12) rfl (by decide +kernel) (Nat.le_of_ble_eq_true rfl) (lv := [(0, .ref (g.2.2 0)), (1, .int (zI a1))]) rfl ⟨rfl, rfl⟩ ?_
  intro p e s m args below meth c A Q hQ cx
  refine z_aload_n cx d_X12_laysChain_0 1 rfl rfl 0 rfl ?_
  refine y_callV_v (As := []) (rest := []) (W := fun u_1 => wM g u_1) (rm := zrM_laysRings) cx (fun _ hq => tM_laysRings hq) d_X12_laysChain_1 4 rfl kk_X12_laysRings q_1684 q_1686 q_80 rfl e_M rfl ⟨rfl, rfl⟩ ⟨Nat.le_of_ble_eq_true rfl, Nat.le_of_ble_eq_true rfl⟩ rfl rfl (Nat.le_of_ble_eq_true rfl) ⟨Nat.zero_le _, Nat.zero_le _⟩ h (fun u_1 h => ?_)
  refine y_iconst cx d_X12_laysChain_4 5 rfl ?_
  refine y_istore_n cx d_X12_laysChain_5 6 rfl rfl (by decide) (lv' := [(2, .int (zI 0)), (0, .ref (g.2.2 0)), (1, .int (zI a1))]) rfl ?_
  refine z_sub [1, 2, 0] rfl ?_
  refine lop2_f (P := fun (v2_2 : Int) (M_3 : ZB) => V p l e zrM_laysChain s m args below meth c A s.heap g 5 Q (wM g M_3) 0 0 [(0, .ref (g.2.2 0)), (1, .int (zI a1)), (2, .int (zI v2_2))] 6 []) (fun rec_4 hrec_4 v2_2 M_3 h => ?_) _ _ _ h
  refine z_iload_n cx d_X12_laysChain_6 7 rfl rfl 2 rfl ?_
  refine z_aload_n cx d_X12_laysChain_7 8 rfl rfl 0 rfl ?_
  refine y_callV_i (As := []) (rest := [.int (zI v2_2)]) (W := fun u_5 => wM g M_3) (rf := fun u_5 => zI u_5) (rm := zr0) cx (fun _ hq => tM_lines hq) d_X12_laysChain_8 11 rfl kk_X12_lines q_1582 q_1584 q_63 rfl e_M rfl ⟨rfl, rfl⟩ ⟨Nat.le_of_ble_eq_true rfl, Nat.le_of_ble_eq_true rfl⟩ rfl rfl (Nat.le_of_ble_eq_true rfl) ⟨Nat.zero_le _, Nat.zero_le _⟩ h (fun u_5 h => ?_)
  refine y_icmp_ge cx d_X12_laysChain_11 14 rfl 50 (by decide) rfl rfl h (fun h => ?_) (fun h => ?_)
  · refine y_iconst cx d_X12_laysChain_50 51 rfl ?_
    refine y_istore_n cx d_X12_laysChain_51 52 rfl rfl (by decide) (lv' := [(2, .int (zI 0)), (0, .ref (g.2.2 0)), (1, .int (zI a1))]) rfl ?_
    refine z_sub [1, 2, 0] rfl ?_
    refine lop2_f (P := fun (v2_6 : Int) (M_7 : ZB) => V p l e zrM_laysChain s m args below meth c A s.heap g 5 Q (wM g M_7) 0 0 [(0, .ref (g.2.2 0)), (1, .int (zI a1)), (2, .int (zI v2_6))] 52 []) (fun rec_8 hrec_8 v2_6 M_7 h => ?_) _ _ _ h
    refine z_iload_n cx d_X12_laysChain_52 53 rfl rfl 2 rfl ?_
    refine z_aload_n cx d_X12_laysChain_53 54 rfl rfl 0 rfl ?_
    refine y_callV_i (As := []) (rest := [.int (zI v2_6)]) (W := fun u_9 => wM g M_7) (rf := fun u_9 => zI u_9) (rm := zr0) cx (fun _ hq => tM_lines hq) d_X12_laysChain_54 57 rfl kk_X12_lines q_1582 q_1584 q_63 rfl e_M rfl ⟨rfl, rfl⟩ ⟨Nat.le_of_ble_eq_true rfl, Nat.le_of_ble_eq_true rfl⟩ rfl rfl (Nat.le_of_ble_eq_true rfl) ⟨Nat.zero_le _, Nat.zero_le _⟩ h (fun u_9 h => ?_)
    refine y_icmp_ge cx d_X12_laysChain_57 60 rfl 154 (by decide) rfl rfl h (fun h => ?_) (fun h => ?_)
    · refine z_aload_n cx d_X12_laysChain_154 155 rfl rfl 0 rfl ?_
      refine z_get cx d_X12_laysChain_155 158 rfl e_M rfl zX12 21 (by decide) q_1382 rfl rfl ?_
      refine z_iload_n cx d_X12_laysChain_158 159 rfl rfl 1 rfl ?_
      refine y_ialdx cx d_X12_laysChain_159 160 rfl e_M_away (by decide) h (fun x_10 h => ?_)
      refine y_sipush cx d_X12_laysChain_160 163 rfl (by decide) ?_
      refine y_icmp_ne cx d_X12_laysChain_163 166 rfl 172 (by decide) rfl (nm_eq (x := 1000) (by decide) (by decide)) h (fun h => ?_) (fun h => ?_)
      · refine z_aload_n cx d_X12_laysChain_172 173 rfl rfl 0 rfl ?_
        refine y_iconst cx d_X12_laysChain_173 174 rfl ?_
        refine y_put cx d_X12_laysChain_174 177 rfl e_M rfl zX12 tyX12_ok nmX12 25 (by decide) q_1386 rfl rfl rfl rfl (Nat.le_of_ble_eq_true rfl) h (fun _ h9 => s_M_25 h9) (fun M_11 h => ?_)
        refine z_iload_n cx d_X12_laysChain_177 178 rfl rfl 1 rfl ?_
        refine y_istore_n cx d_X12_laysChain_178 179 rfl rfl (by decide) (lv' := [(2, .int (zI a1)), (0, .ref (g.2.2 0)), (1, .int (zI a1))]) rfl ?_
        refine z_sub [1, 0] rfl ?_
        refine lop2_f (P := fun (v2_12 : Int) (M_13 : ZB) => V p l e zrM_laysChain s m args below meth c A s.heap g 5 Q (wM g M_13) 0 0 [(0, .ref (g.2.2 0)), (2, .int (zI v2_12))] 179 []) (fun rec_14 hrec_14 v2_12 M_13 h => ?_) _ _ _ h
        refine z_aload_n cx d_X12_laysChain_179 180 rfl rfl 0 rfl ?_
        refine z_get cx d_X12_laysChain_180 183 rfl e_M rfl zX12 21 (by decide) q_1382 rfl rfl ?_
        refine z_iload_n cx d_X12_laysChain_183 184 rfl rfl 1 rfl ?_
        refine y_ialdx cx d_X12_laysChain_184 185 rfl e_M_away (by decide) h (fun x_15 h => ?_)
        refine y_iconst cx d_X12_laysChain_185 186 rfl ?_
        refine y_icmp_le cx d_X12_laysChain_186 189 rfl 265 (by decide) rfl (nm_eq (x := 1) (by decide) (by decide)) h (fun h => ?_) (fun h => ?_)
        · refine z_aload_n cx d_X12_laysChain_265 266 rfl rfl 0 rfl ?_
          refine z_get cx d_X12_laysChain_266 269 rfl e_M rfl zX12 23 (by decide) q_1384 rfl rfl ?_
          refine z_aload_n cx d_X12_laysChain_269 270 rfl rfl 0 rfl ?_
          refine z_get cx d_X12_laysChain_270 273 rfl e_M rfl zX12 25 (by decide) q_1386 rfl rfl ?_
          refine z_iload_n cx d_X12_laysChain_273 274 rfl rfl 1 rfl ?_
          refine y_iast cx d_X12_laysChain_274 275 rfl e_M_row (by decide) h (fun _ h9 => s_M_row h9) (fun M_16 h => ?_)
          refine z_aload_n cx d_X12_laysChain_275 276 rfl rfl 0 rfl ?_
          refine z_get cx d_X12_laysChain_276 279 rfl e_M rfl zX12 24 (by decide) q_1385 rfl rfl ?_
          refine z_aload_n cx d_X12_laysChain_279 280 rfl rfl 0 rfl ?_
          refine z_get cx d_X12_laysChain_280 283 rfl e_M rfl zX12 25 (by decide) q_1386 rfl rfl ?_
          refine z_aload_n cx d_X12_laysChain_283 284 rfl rfl 0 rfl ?_
          refine z_iload_n cx d_X12_laysChain_284 285 rfl rfl 1 rfl ?_
          refine y_callV_i (As := [.int (zI v2_12)]) (rest := [.int (zI (M_16.1 25)), .ref (g.2.2 13)]) (W := fun u_17 => wM g M_16) (rf := fun u_17 => zI u_17) (rm := zrM_freeForest) cx (fun _ hq => tM_freeForest hq) d_X12_laysChain_285 288 rfl kk_X12_freeForest q_1688 q_1690 q_81 rfl e_M rfl ⟨rfl, rfl⟩ ⟨Nat.le_of_ble_eq_true rfl, Nat.le_of_ble_eq_true rfl⟩ rfl rfl (Nat.le_of_ble_eq_true rfl) ⟨Nat.zero_le _, Nat.zero_le _⟩ h (fun u_17 h => ?_)
          refine y_iast cx d_X12_laysChain_288 289 rfl e_M_rowForest (by decide) h (fun _ h9 => s_M_rowForest h9) (fun M_18 h => ?_)
          refine z_aload_n cx d_X12_laysChain_289 290 rfl rfl 0 rfl ?_
          refine z_dup cx d_X12_laysChain_290 291 rfl rfl ?_
          refine z_get cx d_X12_laysChain_291 294 rfl e_M rfl zX12 25 (by decide) q_1386 rfl rfl ?_
          refine y_iconst cx d_X12_laysChain_294 295 rfl ?_
          refine y_iadd cx d_X12_laysChain_295 296 rfl ?_
          refine y_put cx d_X12_laysChain_296 299 rfl e_M rfl zX12 tyX12_ok nmX12 25 (by decide) q_1386 rfl rfl rfl rfl (Nat.le_of_ble_eq_true rfl) h (fun _ h9 => s_M_25 h9) (fun M_19 h => ?_)
          refine z_aload_n cx d_X12_laysChain_299 300 rfl rfl 0 rfl ?_
          refine z_get cx d_X12_laysChain_300 303 rfl e_M rfl zX12 25 (by decide) q_1386 rfl rfl ?_
          subst hQ
          obtain rfl := Option.some.inj h
          exact z_iret cx d_X12_laysChain_303 rfl rfl
        · refine y_iconst cx d_X12_laysChain_189 190 rfl ?_
          refine y_istore_n cx d_X12_laysChain_190 191 rfl rfl (by decide) (lv' := [(3, .int (zI 0)), (0, .ref (g.2.2 0)), (2, .int (zI v2_12))]) rfl ?_
          refine z_sub [1, 2, 0] rfl ?_
          refine lop1_f (P := fun (v3_20 : Int) => V p l e zrM_laysChain s m args below meth c A s.heap g 5 Q (wM g M_13) 0 0 [(0, .ref (g.2.2 0)), (2, .int (zI v2_12)), (3, .int (zI v3_20))] 191 []) (fun rec_21 hrec_21 v3_20 h => ?_) _ _ h
          refine z_aload_n cx d_X12_laysChain_191 192 rfl rfl 0 rfl ?_
          refine z_iload_n cx d_X12_laysChain_192 193 rfl rfl 1 rfl ?_
          refine y_callV_i (As := [.int (zI v2_12)]) (rest := []) (W := fun u_22 => wM g M_13) (rf := fun u_22 => zI u_22) (rm := zrM_nextTo) cx (fun _ hq => tM_nextTo hq) d_X12_laysChain_193 196 rfl kk_X12_nextTo q_1692 q_1694 q_82 rfl e_M rfl ⟨rfl, rfl⟩ ⟨Nat.le_of_ble_eq_true rfl, Nat.le_of_ble_eq_true rfl⟩ rfl rfl (Nat.le_of_ble_eq_true rfl) ⟨Nat.zero_le _, Nat.zero_le _⟩ h (fun u_22 h => ?_)
          refine z_iload_n cx d_X12_laysChain_196 197 rfl rfl 2 rfl ?_
          refine y_callS_i (As := [.int (zI u_22), .int (zI v3_20)]) (rest := []) (W := fun u_23 => wM g M_13) (rf := fun u_23 => zI u_23) (rm := zr0) cx (fun _ hq => tM_has hq) d_X12_laysChain_197 200 rfl kk_X12_has q_1626 q_1627 ⟨rfl, rfl⟩ ⟨Nat.le_of_ble_eq_true rfl, Nat.le_of_ble_eq_true rfl⟩ rfl rfl (Nat.le_of_ble_eq_true rfl) ⟨Nat.zero_le _, Nat.zero_le _⟩ h (fun u_23 h => ?_)
          refine kf0_f (P := V p l e zrM_laysChain s m args below meth c A s.heap g 5 Q (wM g M_13) 0 0 [(0, .ref (g.2.2 0)), (2, .int (zI v2_12)), (3, .int (zI v3_20))] 220 []) h (fun h => ?_) (fun k_24 hk_24 h => ?_)
          · refine y_iinc cx 2 d_X12_laysChain_220 223 rfl rfl (by decide) (lv' := [(3, .int (zI (v3_20 + 1))), (0, .ref (g.2.2 0)), (2, .int (zI v2_12))]) rfl ?_
            refine z_goto cx d_X12_laysChain_223 191 (by decide) ?_
            refine z_sub [1, 2, 0] rfl ?_
            exact hrec_21 _ h
          refine y_if_eq cx d_X12_laysChain_200 203 rfl 220 (by decide) rfl h (fun h => ?_) (fun h => ?_)
          · exact hk_24  h
          · refine z_aload_n cx d_X12_laysChain_203 204 rfl rfl 0 rfl ?_
            refine z_get cx d_X12_laysChain_204 207 rfl e_M rfl zX12 21 (by decide) q_1382 rfl rfl ?_
            refine z_iload_n cx d_X12_laysChain_207 208 rfl rfl 2 rfl ?_
            refine y_ialdx cx d_X12_laysChain_208 209 rfl e_M_away (by decide) h (fun x_25 h => ?_)
            refine y_iconst cx d_X12_laysChain_209 210 rfl ?_
            refine y_iadd cx d_X12_laysChain_210 211 rfl ?_
            refine z_aload_n cx d_X12_laysChain_211 212 rfl rfl 0 rfl ?_
            refine z_get cx d_X12_laysChain_212 215 rfl e_M rfl zX12 21 (by decide) q_1382 rfl rfl ?_
            refine z_iload_n cx d_X12_laysChain_215 216 rfl rfl 1 rfl ?_
            refine y_ialdx cx d_X12_laysChain_216 217 rfl e_M_away (by decide) h (fun x_26 h => ?_)
            refine y_icmp_eq cx d_X12_laysChain_217 220 rfl 226 (by decide) rfl rfl h (fun h => ?_) (fun h => ?_)
            · refine z_aload_n cx d_X12_laysChain_226 227 rfl rfl 0 rfl ?_
              refine z_get cx d_X12_laysChain_227 230 rfl e_M rfl zX12 23 (by decide) q_1384 rfl rfl ?_
              refine z_aload_n cx d_X12_laysChain_230 231 rfl rfl 0 rfl ?_
              refine z_get cx d_X12_laysChain_231 234 rfl e_M rfl zX12 25 (by decide) q_1386 rfl rfl ?_
              refine z_iload_n cx d_X12_laysChain_234 235 rfl rfl 1 rfl ?_
              refine y_iast cx d_X12_laysChain_235 236 rfl e_M_row (by decide) h (fun _ h9 => s_M_row h9) (fun M_27 h => ?_)
              refine z_aload_n cx d_X12_laysChain_236 237 rfl rfl 0 rfl ?_
              refine z_get cx d_X12_laysChain_237 240 rfl e_M rfl zX12 24 (by decide) q_1385 rfl rfl ?_
              refine z_aload_n cx d_X12_laysChain_240 241 rfl rfl 0 rfl ?_
              refine z_get cx d_X12_laysChain_241 244 rfl e_M rfl zX12 25 (by decide) q_1386 rfl rfl ?_
              refine z_aload_n cx d_X12_laysChain_244 245 rfl rfl 0 rfl ?_
              refine z_iload_n cx d_X12_laysChain_245 246 rfl rfl 2 rfl ?_
              refine y_callV_i (As := [.int (zI v3_20)]) (rest := [.int (zI (M_27.1 25)), .ref (g.2.2 13)]) (W := fun u_28 => wM g M_27) (rf := fun u_28 => zI u_28) (rm := zr0) cx (fun _ hq => tM_lies hq) d_X12_laysChain_246 249 rfl kk_X12_lies q_1586 q_1588 q_64 rfl e_M rfl ⟨rfl, rfl⟩ ⟨Nat.le_of_ble_eq_true rfl, Nat.le_of_ble_eq_true rfl⟩ rfl rfl (Nat.le_of_ble_eq_true rfl) ⟨Nat.zero_le _, Nat.zero_le _⟩ h (fun u_28 h => ?_)
              refine y_iast cx d_X12_laysChain_249 250 rfl e_M_rowForest (by decide) h (fun _ h9 => s_M_rowForest h9) (fun M_29 h => ?_)
              refine z_aload_n cx d_X12_laysChain_250 251 rfl rfl 0 rfl ?_
              refine z_dup cx d_X12_laysChain_251 252 rfl rfl ?_
              refine z_get cx d_X12_laysChain_252 255 rfl e_M rfl zX12 25 (by decide) q_1386 rfl rfl ?_
              refine y_iconst cx d_X12_laysChain_255 256 rfl ?_
              refine y_iadd cx d_X12_laysChain_256 257 rfl ?_
              refine y_put cx d_X12_laysChain_257 260 rfl e_M rfl zX12 tyX12_ok nmX12 25 (by decide) q_1386 rfl rfl rfl rfl (Nat.le_of_ble_eq_true rfl) h (fun _ h9 => s_M_25 h9) (fun M_30 h => ?_)
              refine z_iload_n cx d_X12_laysChain_260 261 rfl rfl 2 rfl ?_
              refine y_istore_n cx d_X12_laysChain_261 262 rfl rfl (by decide) (lv' := [(2, .int (zI v3_20)), (0, .ref (g.2.2 0)), (3, .int (zI v3_20))]) rfl ?_
              refine z_goto cx d_X12_laysChain_262 179 (by decide) ?_
              refine z_sub [1, 0] rfl ?_
              exact hrec_14 _ _ h
            · exact hk_24  h
      · refine z_aload_n cx d_X12_laysChain_166 167 rfl rfl 0 rfl ?_
        refine z_iload_n cx d_X12_laysChain_167 168 rfl rfl 1 rfl ?_
        refine y_callV_i (As := [.int (zI a1)]) (rest := []) (W := fun u_31 => wM g u_31.2) (rf := fun u_31 => zI u_31.1) (rm := zrM_laysCrowd) cx (fun _ hq => tM_laysCrowd hq) d_X12_laysChain_168 171 rfl kk_X12_laysCrowd q_1696 q_1698 q_83 rfl e_M rfl ⟨rfl, rfl⟩ ⟨Nat.le_of_ble_eq_true rfl, Nat.le_of_ble_eq_true rfl⟩ rfl rfl (Nat.le_of_ble_eq_true rfl) ⟨Nat.zero_le _, Nat.zero_le _⟩ h (fun u_31 h => ?_)
        subst hQ
        obtain rfl := Option.some.inj h
        exact z_iret cx d_X12_laysChain_171 rfl rfl
    · refine y_iconst cx d_X12_laysChain_60 61 rfl ?_
      refine y_istore_n cx d_X12_laysChain_61 62 rfl rfl (by decide) (lv' := [(3, .int (zI 0)), (0, .ref (g.2.2 0)), (1, .int (zI a1)), (2, .int (zI v2_6))]) rfl ?_
      refine z_sub [1, 2, 3, 0] rfl ?_
      refine lop2_f (P := fun (v3_32 : Int) (M_33 : ZB) => V p l e zrM_laysChain s m args below meth c A s.heap g 5 Q (wM g M_33) 0 0 [(0, .ref (g.2.2 0)), (1, .int (zI a1)), (2, .int (zI v2_6)), (3, .int (zI v3_32))] 62 []) (fun rec_34 hrec_34 v3_32 M_33 h => ?_) _ _ _ h
      refine z_iload_n cx d_X12_laysChain_62 63 rfl rfl 3 rfl ?_
      refine z_aload_n cx d_X12_laysChain_63 64 rfl rfl 0 rfl ?_
      refine y_callV_i (As := []) (rest := [.int (zI v3_32)]) (W := fun u_35 => wM g M_33) (rf := fun u_35 => zI u_35) (rm := zr0) cx (fun _ hq => tM_lines hq) d_X12_laysChain_64 67 rfl kk_X12_lines q_1582 q_1584 q_63 rfl e_M rfl ⟨rfl, rfl⟩ ⟨Nat.le_of_ble_eq_true rfl, Nat.le_of_ble_eq_true rfl⟩ rfl rfl (Nat.le_of_ble_eq_true rfl) ⟨Nat.zero_le _, Nat.zero_le _⟩ h (fun u_35 h => ?_)
      refine y_icmp_ge cx d_X12_laysChain_67 70 rfl 148 (by decide) rfl rfl h (fun h => ?_) (fun h => ?_)
      · refine y_iinc cx 2 d_X12_laysChain_148 151 rfl rfl (by decide) (lv' := [(2, .int (zI (v2_6 + 1))), (0, .ref (g.2.2 0)), (1, .int (zI a1)), (3, .int (zI v3_32))]) rfl ?_
        refine z_goto cx d_X12_laysChain_151 52 (by decide) ?_
        refine z_sub [1, 2, 0] rfl ?_
        exact hrec_8 _ _ h
      · refine y_iconst cx d_X12_laysChain_70 71 rfl ?_
        refine y_istore cx d_X12_laysChain_71 73 rfl (by decide) (lv' := [(4, .int (zI 0)), (0, .ref (g.2.2 0)), (1, .int (zI a1)), (2, .int (zI v2_6)), (3, .int (zI v3_32))]) rfl ?_
        refine z_sub [1, 2, 3, 4, 0] rfl ?_
        refine lop2_f (P := fun (v4_36 : Int) (M_37 : ZB) => V p l e zrM_laysChain s m args below meth c A s.heap g 5 Q (wM g M_37) 0 0 [(0, .ref (g.2.2 0)), (1, .int (zI a1)), (2, .int (zI v2_6)), (3, .int (zI v3_32)), (4, .int (zI v4_36))] 73 []) (fun rec_38 hrec_38 v4_36 M_37 h => ?_) _ _ _ h
        refine z_iload cx d_X12_laysChain_73 75 rfl 4 rfl ?_
        refine z_aload_n cx d_X12_laysChain_75 76 rfl rfl 0 rfl ?_
        refine y_callV_i (As := []) (rest := [.int (zI v4_36)]) (W := fun u_39 => wM g M_37) (rf := fun u_39 => zI u_39) (rm := zr0) cx (fun _ hq => tM_lines hq) d_X12_laysChain_76 79 rfl kk_X12_lines q_1582 q_1584 q_63 rfl e_M rfl ⟨rfl, rfl⟩ ⟨Nat.le_of_ble_eq_true rfl, Nat.le_of_ble_eq_true rfl⟩ rfl rfl (Nat.le_of_ble_eq_true rfl) ⟨Nat.zero_le _, Nat.zero_le _⟩ h (fun u_39 h => ?_)
        refine y_icmp_ge cx d_X12_laysChain_79 82 rfl 142 (by decide) rfl rfl h (fun h => ?_) (fun h => ?_)
        · refine y_iinc cx 3 d_X12_laysChain_142 145 rfl rfl (by decide) (lv' := [(3, .int (zI (v3_32 + 1))), (0, .ref (g.2.2 0)), (1, .int (zI a1)), (2, .int (zI v2_6)), (4, .int (zI v4_36))]) rfl ?_
          refine z_goto cx d_X12_laysChain_145 62 (by decide) ?_
          refine z_sub [1, 2, 3, 0] rfl ?_
          exact hrec_34 _ _ h
        · refine z_aload_n cx d_X12_laysChain_82 83 rfl rfl 0 rfl ?_
          refine z_iload_n cx d_X12_laysChain_83 84 rfl rfl 3 rfl ?_
          refine y_callV_i (As := [.int (zI v3_32)]) (rest := []) (W := fun u_40 => wM g M_37) (rf := fun u_40 => zI u_40) (rm := zr0) cx (fun _ hq => tM_isBroken hq) d_X12_laysChain_84 87 rfl kk_X12_isBroken q_1610 q_1612 q_68 rfl e_M rfl ⟨rfl, rfl⟩ ⟨Nat.le_of_ble_eq_true rfl, Nat.le_of_ble_eq_true rfl⟩ rfl rfl (Nat.le_of_ble_eq_true rfl) ⟨Nat.zero_le _, Nat.zero_le _⟩ h (fun u_40 h => ?_)
          refine kf1_f (P := fun (M_41 : ZB) => V p l e zrM_laysChain s m args below meth c A s.heap g 5 Q (wM g M_41) 0 0 [(0, .ref (g.2.2 0)), (1, .int (zI a1)), (2, .int (zI v2_6)), (3, .int (zI v3_32)), (4, .int (zI v4_36))] 136 []) h (fun M_41 h => ?_) (fun k_42 hk_42 h => ?_)
          · refine y_iinc cx 4 d_X12_laysChain_136 139 rfl rfl (by decide) (lv' := [(4, .int (zI (v4_36 + 1))), (0, .ref (g.2.2 0)), (1, .int (zI a1)), (2, .int (zI v2_6)), (3, .int (zI v3_32))]) rfl ?_
            refine z_goto cx d_X12_laysChain_139 73 (by decide) ?_
            refine z_sub [1, 2, 3, 4, 0] rfl ?_
            exact hrec_38 _ _ h
          refine y_if_ne cx d_X12_laysChain_87 90 rfl 136 (by decide) rfl h (fun h => ?_) (fun h => ?_)
          · exact hk_42 _ h
          · refine z_aload_n cx d_X12_laysChain_90 91 rfl rfl 0 rfl ?_
            refine z_iload_n cx d_X12_laysChain_91 92 rfl rfl 3 rfl ?_
            refine y_callV_i (As := [.int (zI v3_32)]) (rest := []) (W := fun u_43 => wM g M_37) (rf := fun u_43 => zI u_43) (rm := zrM_nextTo) cx (fun _ hq => tM_nextTo hq) d_X12_laysChain_92 95 rfl kk_X12_nextTo q_1692 q_1694 q_82 rfl e_M rfl ⟨rfl, rfl⟩ ⟨Nat.le_of_ble_eq_true rfl, Nat.le_of_ble_eq_true rfl⟩ rfl rfl (Nat.le_of_ble_eq_true rfl) ⟨Nat.zero_le _, Nat.zero_le _⟩ h (fun u_43 h => ?_)
            refine z_iload cx d_X12_laysChain_95 97 rfl 4 rfl ?_
            refine y_callS_i (As := [.int (zI u_43), .int (zI v4_36)]) (rest := []) (W := fun u_44 => wM g M_37) (rf := fun u_44 => zI u_44) (rm := zr0) cx (fun _ hq => tM_has hq) d_X12_laysChain_97 100 rfl kk_X12_has q_1626 q_1627 ⟨rfl, rfl⟩ ⟨Nat.le_of_ble_eq_true rfl, Nat.le_of_ble_eq_true rfl⟩ rfl rfl (Nat.le_of_ble_eq_true rfl) ⟨Nat.zero_le _, Nat.zero_le _⟩ h (fun u_44 h => ?_)
            refine y_if_eq cx d_X12_laysChain_100 103 rfl 136 (by decide) rfl h (fun h => ?_) (fun h => ?_)
            · exact hk_42 _ h
            · refine z_aload_n cx d_X12_laysChain_103 104 rfl rfl 0 rfl ?_
              refine z_get cx d_X12_laysChain_104 107 rfl e_M rfl zX12 21 (by decide) q_1382 rfl rfl ?_
              refine z_iload cx d_X12_laysChain_107 109 rfl 4 rfl ?_
              refine y_ialdx cx d_X12_laysChain_109 110 rfl e_M_away (by decide) h (fun x_45 h => ?_)
              refine y_iconst cx d_X12_laysChain_110 111 rfl ?_
              refine y_iadd cx d_X12_laysChain_111 112 rfl ?_
              refine z_aload_n cx d_X12_laysChain_112 113 rfl rfl 0 rfl ?_
              refine z_get cx d_X12_laysChain_113 116 rfl e_M rfl zX12 21 (by decide) q_1382 rfl rfl ?_
              refine z_iload_n cx d_X12_laysChain_116 117 rfl rfl 3 rfl ?_
              refine y_ialdx cx d_X12_laysChain_117 118 rfl e_M_away (by decide) h (fun x_46 h => ?_)
              refine y_icmp_ge cx d_X12_laysChain_118 121 rfl 136 (by decide) rfl rfl h (fun h => ?_) (fun h => ?_)
              · exact hk_42 _ h
              · refine z_aload_n cx d_X12_laysChain_121 122 rfl rfl 0 rfl ?_
                refine z_get cx d_X12_laysChain_122 125 rfl e_M rfl zX12 21 (by decide) q_1382 rfl rfl ?_
                refine z_iload_n cx d_X12_laysChain_125 126 rfl rfl 3 rfl ?_
                refine z_aload_n cx d_X12_laysChain_126 127 rfl rfl 0 rfl ?_
                refine z_get cx d_X12_laysChain_127 130 rfl e_M rfl zX12 21 (by decide) q_1382 rfl rfl ?_
                refine z_iload cx d_X12_laysChain_130 132 rfl 4 rfl ?_
                refine y_ialdx cx d_X12_laysChain_132 133 rfl e_M_away (by decide) h (fun x_47 h => ?_)
                refine y_iconst cx d_X12_laysChain_133 134 rfl ?_
                refine y_iadd cx d_X12_laysChain_134 135 rfl ?_
                refine y_iast cx d_X12_laysChain_135 136 rfl e_M_away (by decide) h (fun _ h9 => s_M_away h9) (fun M_48 h => ?_)
                exact hk_42 _ h
  · refine z_aload_n cx d_X12_laysChain_14 15 rfl rfl 0 rfl ?_
    refine z_get cx d_X12_laysChain_15 18 rfl e_M rfl zX12 21 (by decide) q_1382 rfl rfl ?_
    refine z_iload_n cx d_X12_laysChain_18 19 rfl rfl 2 rfl ?_
    refine z_aload_n cx d_X12_laysChain_19 20 rfl rfl 0 rfl ?_
    refine z_iload_n cx d_X12_laysChain_20 21 rfl rfl 2 rfl ?_
    refine y_callV_i (As := [.int (zI v2_2)]) (rest := [.int (zI v2_2), .ref (g.2.2 10)]) (W := fun u_49 => wM g M_3) (rf := fun u_49 => zI u_49) (rm := zr0) cx (fun _ hq => tM_isBroken hq) d_X12_laysChain_21 24 rfl kk_X12_isBroken q_1610 q_1612 q_68 rfl e_M rfl ⟨rfl, rfl⟩ ⟨Nat.le_of_ble_eq_true rfl, Nat.le_of_ble_eq_true rfl⟩ rfl rfl (Nat.le_of_ble_eq_true rfl) ⟨Nat.zero_le _, Nat.zero_le _⟩ h (fun u_49 h => ?_)
    refine kf1_f (P := fun (w2_50 : Int) => V p l e zrM_laysChain s m args below meth c A s.heap g 5 Q (wM g M_3) 0 0 [(0, .ref (g.2.2 0)), (1, .int (zI a1)), (2, .int (zI v2_2))] 43 [.int (zI w2_50), .int (zI v2_2), .ref (g.2.2 10)]) h (fun w2_50 h => ?_) (fun k_51 hk_51 h => ?_)
    · refine y_iast cx d_X12_laysChain_43 44 rfl e_M_away (by decide) h (fun _ h9 => s_M_away h9) (fun M_52 h => ?_)
      refine y_iinc cx 2 d_X12_laysChain_44 47 rfl rfl (by decide) (lv' := [(2, .int (zI (v2_2 + 1))), (0, .ref (g.2.2 0)), (1, .int (zI a1))]) rfl ?_
      refine z_goto cx d_X12_laysChain_47 6 (by decide) ?_
      refine z_sub [1, 2, 0] rfl ?_
      exact hrec_4 _ _ h
    refine kf0_f (P := V p l e zrM_laysChain s m args below meth c A s.heap g 5 Q (wM g M_3) 0 0 [(0, .ref (g.2.2 0)), (1, .int (zI a1)), (2, .int (zI v2_2))] 40 [.int (zI v2_2), .ref (g.2.2 10)]) h (fun h => ?_) (fun k_53 hk_53 h => ?_)
    · refine y_sipush cx d_X12_laysChain_40 43 rfl (by decide) ?_
      exact hk_51 _ h
    refine y_if_ne cx d_X12_laysChain_24 27 rfl 40 (by decide) rfl h (fun h => ?_) (fun h => ?_)
    · exact hk_53  h
    · refine z_aload_n cx d_X12_laysChain_27 28 rfl rfl 0 rfl ?_
      refine z_iload_n cx d_X12_laysChain_28 29 rfl rfl 2 rfl ?_
      refine y_callV_i (As := [.int (zI v2_2)]) (rest := [.int (zI v2_2), .ref (g.2.2 10)]) (W := fun u_54 => wM g M_3) (rf := fun u_54 => zI u_54) (rm := zrM_freeForest) cx (fun _ hq => tM_freeForest hq) d_X12_laysChain_29 32 rfl kk_X12_freeForest q_1688 q_1690 q_81 rfl e_M rfl ⟨rfl, rfl⟩ ⟨Nat.le_of_ble_eq_true rfl, Nat.le_of_ble_eq_true rfl⟩ rfl rfl (Nat.le_of_ble_eq_true rfl) ⟨Nat.zero_le _, Nat.zero_le _⟩ h (fun u_54 h => ?_)
      refine y_iconst cx d_X12_laysChain_32 33 rfl ?_
      refine y_icmp_eq cx d_X12_laysChain_33 36 rfl 40 (by decide) rfl (nm_eq (x := (-1)) (by decide) (by decide)) h (fun h => ?_) (fun h => ?_)
      · exact hk_53  h
      · refine y_iconst cx d_X12_laysChain_36 37 rfl ?_
        refine z_goto cx d_X12_laysChain_37 43 (by decide) ?_
        exact hk_51 _ h
def zrM_tells : Room := { frames := 5, cells := 0, slots := 0, locals := 118 }
set_option maxHeartbeats 4000000 in
theorem tM_tells {l : Launch} {g : ZG} {M : ZB} {a1 : Int} {r : Int × ZB} (h : fM_tells M a1 = some r) : zMi l yX12_tells cX12_tells 4 (some .int) zrM_tells g [.ref (g.2.2 0), .int (zI a1)] (wM g M) (wM g r.2) (zI r.1) := by
  unfold fM_tells at h
  refine zMi_q (own := RX12) rfl (by decide +kernel) (Nat.le_of_ble_eq_true rfl) (lv := [(0, .ref (g.2.2 0)), (1, .int (zI a1))]) rfl ⟨rfl, rfl⟩ ?_
  intro p e s m args below meth c A Q hQ cx
  refine z_aload_n cx d_X12_tells_0 1 rfl rfl 0 rfl ?_
  refine z_iload_n cx d_X12_tells_1 2 rfl rfl 1 rfl ?_
  refine y_callV_i (As := [.int (zI a1)]) (rest := []) (W := fun u_1 => wM g u_1.2) (rf := fun u_1 => zI u_1.1) (rm := zrM_laysChain) cx (fun _ hq => tM_laysChain hq) d_X12_tells_2 5 rfl kk_X12_laysChain q_1680 q_1682 q_79 rfl e_M rfl ⟨rfl, rfl⟩ ⟨Nat.le_of_ble_eq_true rfl, Nat.le_of_ble_eq_true rfl⟩ rfl rfl (Nat.le_of_ble_eq_true rfl) ⟨Nat.zero_le _, Nat.zero_le _⟩ h (fun u_1 h => ?_)
  refine y_istore_n cx d_X12_tells_5 6 rfl rfl (by decide) (lv' := [(2, .int (zI u_1.1)), (0, .ref (g.2.2 0)), (1, .int (zI a1))]) rfl ?_
  refine z_iload_n cx d_X12_tells_6 7 rfl rfl 0 rfl ?_
  refine kf1_f (P := fun (M_2 : ZB) => V p l e zrM_tells s m args below meth c A s.heap g 4 Q (wM g M_2) 0 0 [(0, .ref (g.2.2 0)), (2, .int (zI u_1.1))] 18 []) h (fun M_2 h => ?_) (fun k_3 hk_3 h => ?_)
  · refine z_iload_n cx d_X12_tells_18 19 rfl rfl 1 rfl ?_
    refine kf1_f (P := fun (M_4 : ZB) => V p l e zrM_tells s m args below meth c A s.heap g 4 Q (wM g M_4) 0 0 [(0, .ref (g.2.2 0)), (2, .int (zI u_1.1))] 27 []) h (fun M_4 h => ?_) (fun k_5 hk_5 h => ?_)
    · refine y_iconst cx d_X12_tells_27 28 rfl ?_
      refine y_istore_n cx d_X12_tells_28 29 rfl rfl (by decide) (lv' := [(3, .int (zI 0)), (0, .ref (g.2.2 0)), (2, .int (zI u_1.1))]) rfl ?_
      refine z_sub [1, 2, 0] rfl ?_
      refine lop2_f (P := fun (v3_6 : Int) (M_7 : ZB) => V p l e zrM_tells s m args below meth c A s.heap g 4 Q (wM g M_7) 0 0 [(0, .ref (g.2.2 0)), (2, .int (zI u_1.1)), (3, .int (zI v3_6))] 29 []) (fun rec_8 hrec_8 v3_6 M_7 h => ?_) _ _ _ h
      refine z_iload_n cx d_X12_tells_29 30 rfl rfl 2 rfl ?_
      refine z_iload_n cx d_X12_tells_30 31 rfl rfl 1 rfl ?_
      refine y_icmp_ge cx d_X12_tells_31 34 rfl 70 (by decide) rfl rfl h (fun h => ?_) (fun h => ?_)
      · refine z_iload_n cx d_X12_tells_70 71 rfl rfl 1 rfl ?_
        subst hQ
        obtain rfl := Option.some.inj h
        exact z_iret cx d_X12_tells_71 rfl rfl
      · refine z_aload_n cx d_X12_tells_34 35 rfl rfl 0 rfl ?_
        refine z_get cx d_X12_tells_35 38 rfl e_M rfl zX12 27 (by decide) q_1388 rfl rfl ?_
        refine y_iconst cx d_X12_tells_38 39 rfl ?_
        refine z_iload_n cx d_X12_tells_39 40 rfl rfl 2 rfl ?_
        refine y_imul cx d_X12_tells_40 41 rfl ?_
        refine z_aload_n cx d_X12_tells_41 42 rfl rfl 0 rfl ?_
        refine z_get cx d_X12_tells_42 45 rfl e_M rfl zX12 23 (by decide) q_1384 rfl rfl ?_
        refine z_iload_n cx d_X12_tells_45 46 rfl rfl 2 rfl ?_
        refine y_ialdx cx d_X12_tells_46 47 rfl e_M_row (by decide) h (fun x_9 h => ?_)
        refine y_iast cx d_X12_tells_47 48 rfl e_M_toldRow (by decide) h (fun _ h9 => s_M_toldRow h9) (fun M_10 h => ?_)
        refine z_aload_n cx d_X12_tells_48 49 rfl rfl 0 rfl ?_
        refine z_get cx d_X12_tells_49 52 rfl e_M rfl zX12 27 (by decide) q_1388 rfl rfl ?_
        refine y_iconst cx d_X12_tells_52 53 rfl ?_
        refine z_iload_n cx d_X12_tells_53 54 rfl rfl 2 rfl ?_
        refine y_imul cx d_X12_tells_54 55 rfl ?_
        refine y_iconst cx d_X12_tells_55 56 rfl ?_
        refine y_iadd cx d_X12_tells_56 57 rfl ?_
        refine z_aload_n cx d_X12_tells_57 58 rfl rfl 0 rfl ?_
        refine z_get cx d_X12_tells_58 61 rfl e_M rfl zX12 24 (by decide) q_1385 rfl rfl ?_
        refine z_iload_n cx d_X12_tells_61 62 rfl rfl 2 rfl ?_
        refine y_ialdx cx d_X12_tells_62 63 rfl e_M_rowForest (by decide) h (fun x_11 h => ?_)
        refine y_iast cx d_X12_tells_63 64 rfl e_M_toldRow (by decide) h (fun _ h9 => s_M_toldRow h9) (fun M_12 h => ?_)
        refine y_iinc cx 2 d_X12_tells_64 67 rfl rfl (by decide) (lv' := [(3, .int (zI (v3_6 + 1))), (0, .ref (g.2.2 0)), (2, .int (zI u_1.1))]) rfl ?_
        refine z_goto cx d_X12_tells_67 29 (by decide) ?_
        refine z_sub [1, 2, 0] rfl ?_
        exact hrec_8 _ _ h
    refine y_if_le cx d_X12_tells_19 22 rfl 27 (by decide) rfl h (fun h => ?_) (fun h => ?_)
    · exact hk_5 _ h
    · refine z_aload_n cx d_X12_tells_22 23 rfl rfl 0 rfl ?_
      refine z_iload_n cx d_X12_tells_23 24 rfl rfl 1 rfl ?_
      refine y_put cx d_X12_tells_24 27 rfl e_M rfl zX12 tyX12_ok nmX12 28 (by decide) q_1389 rfl rfl rfl rfl (Nat.le_of_ble_eq_true rfl) h (fun _ h9 => s_M_28 h9) (fun M_13 h => ?_)
      exact hk_5 _ h
  refine y_if_ne cx d_X12_tells_7 10 rfl 18 (by decide) rfl h (fun h => ?_) (fun h => ?_)
  · refine z_sub [1, 0] rfl ?_
    exact hk_3 _ h
  · refine z_aload_n cx d_X12_tells_10 11 rfl rfl 1 rfl ?_
    refine z_aload_n cx d_X12_tells_11 12 rfl rfl 1 rfl ?_
    refine z_get cx d_X12_tells_12 15 rfl e_M rfl zX12 26 (by decide) q_1387 rfl rfl ?_
    refine y_put cx d_X12_tells_15 18 rfl e_M rfl zX12 tyX12_ok nmX12 29 (by decide) q_1390 rfl rfl rfl rfl (Nat.le_of_ble_eq_true rfl) h (fun _ h9 => s_M_29 h9) (fun M_14 h => ?_)
    refine z_sub [1, 0] rfl ?_
    exact hk_3 _ h
set_option maxHeartbeats 4000000 in
theorem tM_exchange {l : Launch} {g : ZG} {M : ZB}  {r : ZB} (h : fM_exchange M = some r) : zMv l yX12_exchange cX12_exchange 2 none zr0 g [.ref (g.2.2 0)] (wM g M) (wM g r) := by
  unfold fM_exchange at h
  refine zMv_q (own := RX12) rfl (by decide +kernel) (Nat.le_of_ble_eq_true rfl) (lv := [(0, .ref (g.2.2 0))]) rfl ⟨rfl, rfl⟩ ?_
  intro p e s m args below meth c A Q hQ cx
  refine y_iconst cx d_X12_exchange_0 1 rfl ?_
  refine y_istore_n cx d_X12_exchange_1 2 rfl rfl (by decide) (lv' := [(1, .int (zI 0)), (0, .ref (g.2.2 0))]) rfl ?_
  refine z_sub [1, 0] rfl ?_
  refine lop2_f (P := fun (v1_1 : Int) (M_2 : ZB) => V p l e zr0 s m args below meth c A s.heap g 2 Q (wM g M_2) 0 0 [(0, .ref (g.2.2 0)), (1, .int (zI v1_1))] 2 []) (fun rec_3 hrec_3 v1_1 M_2 h => ?_) _ _ _ h
  refine z_iload_n cx d_X12_exchange_2 3 rfl rfl 1 rfl ?_
  refine z_aload_n cx d_X12_exchange_3 4 rfl rfl 0 rfl ?_
  refine z_get cx d_X12_exchange_4 7 rfl e_M rfl zX12 25 (by decide) q_1386 rfl rfl ?_
  refine y_icmp_ge cx d_X12_exchange_7 10 rfl 36 (by decide) rfl rfl h (fun h => ?_) (fun h => ?_)
  · subst hQ
    obtain rfl := Option.some.inj h
    exact z_vret cx d_X12_exchange_36 rfl
  · refine z_aload_n cx d_X12_exchange_10 11 rfl rfl 0 rfl ?_
    refine z_get cx d_X12_exchange_11 14 rfl e_M rfl zX12 12 (by decide) q_1373 rfl rfl ?_
    refine y_bipush cx d_X12_exchange_14 16 rfl (by decide) ?_
    refine z_aload_n cx d_X12_exchange_16 17 rfl rfl 0 rfl ?_
    refine z_get cx d_X12_exchange_17 20 rfl e_M rfl zX12 23 (by decide) q_1384 rfl rfl ?_
    refine z_iload_n cx d_X12_exchange_20 21 rfl rfl 1 rfl ?_
    refine y_ialdx cx d_X12_exchange_21 22 rfl e_M_row (by decide) h (fun x_4 h => ?_)
    refine y_iadd cx d_X12_exchange_22 23 rfl ?_
    refine z_aload_n cx d_X12_exchange_23 24 rfl rfl 0 rfl ?_
    refine z_get cx d_X12_exchange_24 27 rfl e_M rfl zX12 24 (by decide) q_1385 rfl rfl ?_
    refine z_iload_n cx d_X12_exchange_27 28 rfl rfl 1 rfl ?_
    refine y_ialdx cx d_X12_exchange_28 29 rfl e_M_rowForest (by decide) h (fun x_5 h => ?_)
    refine y_iast cx d_X12_exchange_29 30 rfl e_M_now (by decide) h (fun _ h9 => s_M_now h9) (fun M_6 h => ?_)
    refine y_iinc cx 1 d_X12_exchange_30 33 rfl rfl (by decide) (lv' := [(1, .int (zI (v1_1 + 1))), (0, .ref (g.2.2 0))]) rfl ?_
    refine z_goto cx d_X12_exchange_33 2 (by decide) ?_
    refine z_sub [1, 0] rfl ?_
    exact hrec_3 _ _ h
def zrM_place : Room := { frames := 6, cells := 0, slots := 0, locals := 141 }
set_option maxHeartbeats 4000000 in
theorem tM_place {l : Launch} {g : ZG} {M : ZB} {a1 : Int} {r : Int × ZB} (h : fM_place M a1 = some r) : zMi l yX12_place cX12_place 3 (some .int) zrM_place g [.ref (g.2.2 0), .int (zI a1)] (wM g M) (wM g r.2) (zI r.1) := by
  unfold fM_place at h
  refine zMi_q (own := RX12) rfl (by decide +kernel) (Nat.le_of_ble_eq_true rfl) (lv := [(0, .ref (g.2.2 0)), (1, .int (zI a1))]) rfl ⟨rfl, rfl⟩ ?_
  intro p e s m args below meth c A Q hQ cx
  refine z_aload_n cx d_X12_place_0 1 rfl rfl 0 rfl ?_
  refine y_iconst cx d_X12_place_1 2 rfl ?_
  refine y_put cx d_X12_place_2 5 rfl e_M rfl zX12 tyX12_ok nmX12 0 (by decide) q_1361 rfl rfl rfl rfl (Nat.le_of_ble_eq_true rfl) h (fun _ h9 => s_M_0 h9) (fun M_1 h => ?_)
  refine z_aload_n cx d_X12_place_5 6 rfl rfl 0 rfl ?_
  refine z_iload_n cx d_X12_place_6 7 rfl rfl 1 rfl ?_
  refine y_callV_i (As := [.int (zI a1)]) (rest := []) (W := fun u_2 => wM g M_1) (rf := fun u_2 => zI u_2) (rm := zrM_isLine) cx (fun _ hq => tM_isLine hq) d_X12_place_7 10 rfl kk_X12_isLine q_1594 q_1596 q_65 rfl e_M rfl ⟨rfl, rfl⟩ ⟨Nat.le_of_ble_eq_true rfl, Nat.le_of_ble_eq_true rfl⟩ rfl rfl (Nat.le_of_ble_eq_true rfl) ⟨Nat.zero_le _, Nat.zero_le _⟩ h (fun u_2 h => ?_)
  refine kf0_f (P := V p l e zrM_place s m args below meth c A s.heap g 3 Q (wM g M_1) 0 0 [] 21 []) h (fun h => ?_) (fun k_3 hk_3 h => ?_)
  · refine y_iconst cx d_X12_place_21 22 rfl ?_
    subst hQ
    obtain rfl := Option.some.inj h
    exact z_iret cx d_X12_place_22 rfl rfl
  refine y_if_eq cx d_X12_place_10 13 rfl 21 (by decide) rfl h (fun h => ?_) (fun h => ?_)
  · refine z_sub [] rfl ?_
    exact hk_3  h
  · refine z_aload_n cx d_X12_place_13 14 rfl rfl 0 rfl ?_
    refine z_iload_n cx d_X12_place_14 15 rfl rfl 1 rfl ?_
    refine y_callV_i (As := [.int (zI a1)]) (rest := []) (W := fun u_4 => wM g M_1) (rf := fun u_4 => zI u_4) (rm := zrM_isLoose) cx (fun _ hq => tM_isLoose hq) d_X12_place_15 18 rfl kk_X12_isLoose q_1672 q_1674 q_77 rfl e_M rfl ⟨rfl, rfl⟩ ⟨Nat.le_of_ble_eq_true rfl, Nat.le_of_ble_eq_true rfl⟩ rfl rfl (Nat.le_of_ble_eq_true rfl) ⟨Nat.zero_le _, Nat.zero_le _⟩ h (fun u_4 h => ?_)
    refine y_if_ne cx d_X12_place_18 21 rfl 23 (by decide) rfl h (fun h => ?_) (fun h => ?_)
    · refine z_aload_n cx d_X12_place_23 24 rfl rfl 0 rfl ?_
      refine z_iload_n cx d_X12_place_24 25 rfl rfl 1 rfl ?_
      refine y_callV_i (As := [.int (zI a1)]) (rest := []) (W := fun u_5 => wM g u_5.2) (rf := fun u_5 => zI u_5.1) (rm := zrM_tells) cx (fun _ hq => tM_tells hq) d_X12_place_25 28 rfl kk_X12_tells q_1676 q_1678 q_78 rfl e_M rfl ⟨rfl, rfl⟩ ⟨Nat.le_of_ble_eq_true rfl, Nat.le_of_ble_eq_true rfl⟩ rfl rfl (Nat.le_of_ble_eq_true rfl) ⟨Nat.zero_le _, Nat.zero_le _⟩ h (fun u_5 h => ?_)
      refine y_istore_n cx d_X12_place_28 29 rfl rfl (by decide) (lv' := [(2, .int (zI u_5.1)), (0, .ref (g.2.2 0)), (1, .int (zI a1))]) rfl ?_
      refine z_iload_n cx d_X12_place_29 30 rfl rfl 0 rfl ?_
      refine y_if_ne cx d_X12_place_30 33 rfl 35 (by decide) rfl h (fun h => ?_) (fun h => ?_)
      · refine z_aload_n cx d_X12_place_35 36 rfl rfl 1 rfl ?_
        refine y_callV_v (As := []) (rest := []) (W := fun u_6 => wM g u_6) (rm := zrM_snap) cx (fun _ hq => tM_snap hq) d_X12_place_36 39 rfl kk_X12_snap q_1578 q_1580 q_62 rfl e_M rfl ⟨rfl, rfl⟩ ⟨Nat.le_of_ble_eq_true rfl, Nat.le_of_ble_eq_true rfl⟩ rfl rfl (Nat.le_of_ble_eq_true rfl) ⟨Nat.zero_le _, Nat.zero_le _⟩ h (fun u_6 h => ?_)
        refine z_aload_n cx d_X12_place_39 40 rfl rfl 1 rfl ?_
        refine y_callV_v (As := []) (rest := []) (W := fun u_7 => wM g u_7) (rm := zr0) cx (fun _ hq => tM_exchange hq) d_X12_place_40 43 rfl kk_X12_exchange q_1700 q_1702 q_84 rfl e_M rfl ⟨rfl, rfl⟩ ⟨Nat.le_of_ble_eq_true rfl, Nat.le_of_ble_eq_true rfl⟩ rfl rfl (Nat.le_of_ble_eq_true rfl) ⟨Nat.zero_le _, Nat.zero_le _⟩ h (fun u_7 h => ?_)
        refine z_iload_n cx d_X12_place_43 44 rfl rfl 0 rfl ?_
        subst hQ
        obtain rfl := Option.some.inj h
        exact z_iret cx d_X12_place_44 rfl rfl
      · refine y_iconst cx d_X12_place_33 34 rfl ?_
        subst hQ
        obtain rfl := Option.some.inj h
        exact z_iret cx d_X12_place_34 rfl rfl
    · refine z_sub [] rfl ?_
      exact hk_3  h
def zrM_chain : Room := { frames := 6, cells := 0, slots := 0, locals := 141 }
set_option maxHeartbeats 4000000 in
theorem tM_chain {l : Launch} {g : ZG} {M : ZB} {a1 : Int} {r : Int × ZB} (h : fM_chain M a1 = some r) : zMi l yX12_chain cX12_chain 2 (some .int) zrM_chain g [.ref (g.2.2 0), .int (zI a1)] (wM g M) (wM g r.2) (zI r.1) := by
  unfold fM_chain at h
  refine zMi_q (own := RX12) rfl (by decide +kernel) (Nat.le_of_ble_eq_true rfl) (lv := [(0, .ref (g.2.2 0)), (1, .int (zI a1))]) rfl ⟨rfl, rfl⟩ ?_
  intro p e s m args below meth c A Q hQ cx
  refine z_aload_n cx d_X12_chain_0 1 rfl rfl 0 rfl ?_
  refine y_iconst cx d_X12_chain_1 2 rfl ?_
  refine y_put cx d_X12_chain_2 5 rfl e_M rfl zX12 tyX12_ok nmX12 0 (by decide) q_1361 rfl rfl rfl rfl (Nat.le_of_ble_eq_true rfl) h (fun _ h9 => s_M_0 h9) (fun M_1 h => ?_)
  refine z_aload_n cx d_X12_chain_5 6 rfl rfl 0 rfl ?_
  refine z_iload_n cx d_X12_chain_6 7 rfl rfl 1 rfl ?_
  refine y_callV_i (As := [.int (zI a1)]) (rest := []) (W := fun u_2 => wM g M_1) (rf := fun u_2 => zI u_2) (rm := zrM_isLine) cx (fun _ hq => tM_isLine hq) d_X12_chain_7 10 rfl kk_X12_isLine q_1594 q_1596 q_65 rfl e_M rfl ⟨rfl, rfl⟩ ⟨Nat.le_of_ble_eq_true rfl, Nat.le_of_ble_eq_true rfl⟩ rfl rfl (Nat.le_of_ble_eq_true rfl) ⟨Nat.zero_le _, Nat.zero_le _⟩ h (fun u_2 h => ?_)
  refine kf2_f (P := fun (w0_3 : Int) (M_4 : ZB) => V p l e zrM_chain s m args below meth c A s.heap g 2 Q (wM g M_4) 0 0 [] 30 [.int (zI w0_3)]) h (fun w0_3 M_4 h => ?_) (fun k_5 hk_5 h => ?_)
  · subst hQ
    obtain rfl := Option.some.inj h
    exact z_iret cx d_X12_chain_30 rfl rfl
  refine kf0_f (P := V p l e zrM_chain s m args below meth c A s.heap g 2 Q (wM g M_1) 0 0 [] 29 []) h (fun h => ?_) (fun k_6 hk_6 h => ?_)
  · refine y_iconst cx d_X12_chain_29 30 rfl ?_
    exact hk_5 _ _ h
  refine y_if_eq cx d_X12_chain_10 13 rfl 29 (by decide) rfl h (fun h => ?_) (fun h => ?_)
  · refine z_sub [] rfl ?_
    exact hk_6  h
  · refine z_aload_n cx d_X12_chain_13 14 rfl rfl 0 rfl ?_
    refine z_iload_n cx d_X12_chain_14 15 rfl rfl 1 rfl ?_
    refine y_callV_i (As := [.int (zI a1)]) (rest := []) (W := fun u_7 => wM g M_1) (rf := fun u_7 => zI u_7) (rm := zrM_isLoose) cx (fun _ hq => tM_isLoose hq) d_X12_chain_15 18 rfl kk_X12_isLoose q_1672 q_1674 q_77 rfl e_M rfl ⟨rfl, rfl⟩ ⟨Nat.le_of_ble_eq_true rfl, Nat.le_of_ble_eq_true rfl⟩ rfl rfl (Nat.le_of_ble_eq_true rfl) ⟨Nat.zero_le _, Nat.zero_le _⟩ h (fun u_7 h => ?_)
    refine y_if_eq cx d_X12_chain_18 21 rfl 29 (by decide) rfl h (fun h => ?_) (fun h => ?_)
    · refine z_sub [] rfl ?_
      exact hk_6  h
    · refine z_aload_n cx d_X12_chain_21 22 rfl rfl 0 rfl ?_
      refine z_iload_n cx d_X12_chain_22 23 rfl rfl 1 rfl ?_
      refine y_callV_i (As := [.int (zI a1)]) (rest := []) (W := fun u_8 => wM g u_8.2) (rf := fun u_8 => zI u_8.1) (rm := zrM_tells) cx (fun _ hq => tM_tells hq) d_X12_chain_23 26 rfl kk_X12_tells q_1676 q_1678 q_78 rfl e_M rfl ⟨rfl, rfl⟩ ⟨Nat.le_of_ble_eq_true rfl, Nat.le_of_ble_eq_true rfl⟩ rfl rfl (Nat.le_of_ble_eq_true rfl) ⟨Nat.zero_le _, Nat.zero_le _⟩ h (fun u_8 h => ?_)
      refine z_goto cx d_X12_chain_26 30 (by decide) ?_
      refine z_sub [] rfl ?_
      exact hk_5 _ _ h
def zrM_chainAt : Room := { frames := 1, cells := 0, slots := 0, locals := 22 }
set_option maxHeartbeats 4000000 in
theorem tM_chainAt {l : Launch} {g : ZG} {M : ZB} {a1 : Int} {a2 : Int} {r : Int × ZB} (h : fM_chainAt M a1 a2 = some r) : zMi l yX12_chainAt cX12_chainAt 3 (some .int) zrM_chainAt g [.ref (g.2.2 0), .int (zI a1), .int (zI a2)] (wM g M) (wM g r.2) (zI r.1) := by
  unfold fM_chainAt at h
  refine zMi_q (own := RX12) rfl (by decide +kernel) (Nat.le_of_ble_eq_true rfl) (lv := [(0, .ref (g.2.2 0)), (1, .int (zI a1)), (2, .int (zI a2))]) rfl ⟨rfl, rfl⟩ ?_
  intro p e s m args below meth c A Q hQ cx
  refine z_aload_n cx d_X12_chainAt_0 1 rfl rfl 0 rfl ?_
  refine y_iconst cx d_X12_chainAt_1 2 rfl ?_
  refine y_put cx d_X12_chainAt_2 5 rfl e_M rfl zX12 tyX12_ok nmX12 0 (by decide) q_1361 rfl rfl rfl rfl (Nat.le_of_ble_eq_true rfl) h (fun _ h9 => s_M_0 h9) (fun M_1 h => ?_)
  refine z_iload_n cx d_X12_chainAt_5 6 rfl rfl 1 rfl ?_
  refine y_iconst cx d_X12_chainAt_6 7 rfl ?_
  refine z_aload_n cx d_X12_chainAt_7 8 rfl rfl 0 rfl ?_
  refine z_get cx d_X12_chainAt_8 11 rfl e_M rfl zX12 28 (by decide) q_1389 rfl rfl ?_
  refine y_iconst cx d_X12_chainAt_11 12 rfl ?_
  refine y_isub cx d_X12_chainAt_12 13 rfl ?_
  refine y_callS_i (As := [.int (zI a1), .int (zI 0), .int (zI ((M_1.1 28) - 1))]) (rest := []) (W := fun u_2 => wM g M_1) (rf := fun u_2 => zI u_2) (rm := zr0) cx (fun _ hq => tM_isIn hq) d_X12_chainAt_13 16 rfl kk_X12_isIn q_1552 q_1553 ⟨rfl, rfl⟩ ⟨Nat.le_of_ble_eq_true rfl, Nat.le_of_ble_eq_true rfl⟩ rfl rfl (Nat.le_of_ble_eq_true rfl) ⟨Nat.zero_le _, Nat.zero_le _⟩ h (fun u_2 h => ?_)
  refine kf1_f (P := fun (w0_3 : Int) => V p l e zrM_chainAt s m args below meth c A s.heap g 3 Q (wM g M_1) 0 0 [] 42 [.int (zI w0_3)]) h (fun w0_3 h => ?_) (fun k_4 hk_4 h => ?_)
  · subst hQ
    obtain rfl := Option.some.inj h
    exact z_iret cx d_X12_chainAt_42 rfl rfl
  refine kf0_f (P := V p l e zrM_chainAt s m args below meth c A s.heap g 3 Q (wM g M_1) 0 0 [] 41 []) h (fun h => ?_) (fun k_5 hk_5 h => ?_)
  · refine y_iconst cx d_X12_chainAt_41 42 rfl ?_
    exact hk_4 _ h
  refine y_if_eq cx d_X12_chainAt_16 19 rfl 41 (by decide) rfl h (fun h => ?_) (fun h => ?_)
  · refine z_sub [] rfl ?_
    exact hk_5  h
  · refine z_iload_n cx d_X12_chainAt_19 20 rfl rfl 2 rfl ?_
    refine y_iconst cx d_X12_chainAt_20 21 rfl ?_
    refine y_iconst cx d_X12_chainAt_21 22 rfl ?_
    refine y_callS_i (As := [.int (zI a2), .int (zI 0), .int (zI 1)]) (rest := []) (W := fun u_6 => wM g M_1) (rf := fun u_6 => zI u_6) (rm := zr0) cx (fun _ hq => tM_isIn hq) d_X12_chainAt_22 25 rfl kk_X12_isIn q_1552 q_1553 ⟨rfl, rfl⟩ ⟨Nat.le_of_ble_eq_true rfl, Nat.le_of_ble_eq_true rfl⟩ rfl rfl (Nat.le_of_ble_eq_true rfl) ⟨Nat.zero_le _, Nat.zero_le _⟩ h (fun u_6 h => ?_)
    refine y_if_eq cx d_X12_chainAt_25 28 rfl 41 (by decide) rfl h (fun h => ?_) (fun h => ?_)
    · refine z_sub [] rfl ?_
      exact hk_5  h
    · refine z_aload_n cx d_X12_chainAt_28 29 rfl rfl 0 rfl ?_
      refine z_get cx d_X12_chainAt_29 32 rfl e_M rfl zX12 27 (by decide) q_1388 rfl rfl ?_
      refine y_iconst cx d_X12_chainAt_32 33 rfl ?_
      refine z_iload_n cx d_X12_chainAt_33 34 rfl rfl 1 rfl ?_
      refine y_imul cx d_X12_chainAt_34 35 rfl ?_
      refine z_iload_n cx d_X12_chainAt_35 36 rfl rfl 2 rfl ?_
      refine y_iadd cx d_X12_chainAt_36 37 rfl ?_
      refine y_ialdx cx d_X12_chainAt_37 38 rfl e_M_toldRow (by decide) h (fun x_7 h => ?_)
      refine z_goto cx d_X12_chainAt_38 42 (by decide) ?_
      refine z_sub [] rfl ?_
      exact hk_4 _ h
set_option maxHeartbeats 4000000 in
theorem tM_crowd {l : Launch} {g : ZG} {M : ZB}  {r : Int × ZB} (h : fM_crowd M = some r) : zMi l yX12_crowd cX12_crowd 1 (some .int) zr0 g [.ref (g.2.2 0)] (wM g M) (wM g r.2) (zI r.1) := by
  unfold fM_crowd at h
  refine zMi_q (own := RX12) rfl (by decide +kernel) (Nat.le_of_ble_eq_true rfl) (lv := [(0, .ref (g.2.2 0))]) rfl ⟨rfl, rfl⟩ ?_
  intro p e s m args below meth c A Q hQ cx
  refine z_aload_n cx d_X12_crowd_0 1 rfl rfl 0 rfl ?_
  refine y_iconst cx d_X12_crowd_1 2 rfl ?_
  refine y_put cx d_X12_crowd_2 5 rfl e_M rfl zX12 tyX12_ok nmX12 0 (by decide) q_1361 rfl rfl rfl rfl (Nat.le_of_ble_eq_true rfl) h (fun _ h9 => s_M_0 h9) (fun M_1 h => ?_)
  refine z_aload_n cx d_X12_crowd_5 6 rfl rfl 0 rfl ?_
  refine z_get cx d_X12_crowd_6 9 rfl e_M rfl zX12 29 (by decide) q_1390 rfl rfl ?_
  subst hQ
  obtain rfl := Option.some.inj h
  exact z_iret cx d_X12_crowd_9 rfl rfl
set_option maxHeartbeats 4000000 in
theorem tM_copy_now_before {l : Launch} {g : ZG} {M : ZB} {a2 : Int} {a4 : Int} {r : ZB} (h : fM_copy_now_before M a2 a4 = some r) : zMv l yX12_copy cX12_copy 5 none zr0 g [.ref (g.2.2 2), .int (zI a2), .ref (g.2.2 6), .int (zI a4)] (wM g M) (wM g r) := by
  unfold fM_copy_now_before at h
  refine zMv_q (own := RX12) rfl (by decide +kernel) (Nat.le_of_ble_eq_true rfl) (lv := [(0, .ref (g.2.2 2)), (1, .int (zI a2)), (2, .ref (g.2.2 6)), (3, .int (zI a4))]) rfl ⟨rfl, rfl⟩ ?_
  intro p e s m args below meth c A Q hQ cx
  refine y_iconst cx d_X12_copy_0 1 rfl ?_
  refine y_istore cx d_X12_copy_1 3 rfl (by decide) (lv' := [(4, .int (zI 0)), (0, .ref (g.2.2 2)), (1, .int (zI a2)), (2, .ref (g.2.2 6)), (3, .int (zI a4))]) rfl ?_
  refine z_sub [1, 2, 3, 4, 0] rfl ?_
  refine lop2_f (P := fun (v4_1 : Int) (M_2 : ZB) => V p l e zr0 s m args below meth c A s.heap g 5 Q (wM g M_2) 0 0 [(0, .ref (g.2.2 2)), (1, .int (zI a2)), (2, .ref (g.2.2 6)), (3, .int (zI a4)), (4, .int (zI v4_1))] 3 []) (fun rec_3 hrec_3 v4_1 M_2 h => ?_) _ _ _ h
  refine z_iload cx d_X12_copy_3 5 rfl 4 rfl ?_
  refine y_sipush cx d_X12_copy_5 8 rfl (by decide) ?_
  refine y_icmp_ge cx d_X12_copy_8 11 rfl 29 (by decide) rfl (nm_eq (x := 147) (by decide) (by decide)) h (fun h => ?_) (fun h => ?_)
  · subst hQ
    obtain rfl := Option.some.inj h
    exact z_vret cx d_X12_copy_29 rfl
  · refine z_aload_n cx d_X12_copy_11 12 rfl rfl 2 rfl ?_
    refine z_iload_n cx d_X12_copy_12 13 rfl rfl 3 rfl ?_
    refine z_iload cx d_X12_copy_13 15 rfl 4 rfl ?_
    refine y_iadd cx d_X12_copy_15 16 rfl ?_
    refine z_aload_n cx d_X12_copy_16 17 rfl rfl 0 rfl ?_
    refine z_iload_n cx d_X12_copy_17 18 rfl rfl 1 rfl ?_
    refine z_iload cx d_X12_copy_18 20 rfl 4 rfl ?_
    refine y_iadd cx d_X12_copy_20 21 rfl ?_
    refine y_ialdx cx d_X12_copy_21 22 rfl e_M_now (by decide) h (fun x_4 h => ?_)
    refine y_iast cx d_X12_copy_22 23 rfl e_M_before (by decide) h (fun _ h9 => s_M_before h9) (fun M_5 h => ?_)
    refine y_iinc cx 4 d_X12_copy_23 26 rfl rfl (by decide) (lv' := [(4, .int (zI (v4_1 + 1))), (0, .ref (g.2.2 2)), (1, .int (zI a2)), (2, .ref (g.2.2 6)), (3, .int (zI a4))]) rfl ?_
    refine z_goto cx d_X12_copy_26 3 (by decide) ?_
    refine z_sub [1, 2, 3, 4, 0] rfl ?_
    exact hrec_3 _ _ h
set_option maxHeartbeats 4000000 in
theorem tM_copy_now_live {l : Launch} {g : ZG} {M : ZB} {a2 : Int} {a4 : Int} {r : ZB} (h : fM_copy_now_live M a2 a4 = some r) : zMv l yX12_copy cX12_copy 5 none zr0 g [.ref (g.2.2 2), .int (zI a2), .ref (g.2.2 7), .int (zI a4)] (wM g M) (wM g r) := by
  unfold fM_copy_now_live at h
  refine zMv_q (own := RX12) rfl (by decide +kernel) (Nat.le_of_ble_eq_true rfl) (lv := [(0, .ref (g.2.2 2)), (1, .int (zI a2)), (2, .ref (g.2.2 7)), (3, .int (zI a4))]) rfl ⟨rfl, rfl⟩ ?_
  intro p e s m args below meth c A Q hQ cx
  refine y_iconst cx d_X12_copy_0 1 rfl ?_
  refine y_istore cx d_X12_copy_1 3 rfl (by decide) (lv' := [(4, .int (zI 0)), (0, .ref (g.2.2 2)), (1, .int (zI a2)), (2, .ref (g.2.2 7)), (3, .int (zI a4))]) rfl ?_
  refine z_sub [1, 2, 3, 4, 0] rfl ?_
  refine lop2_f (P := fun (v4_1 : Int) (M_2 : ZB) => V p l e zr0 s m args below meth c A s.heap g 5 Q (wM g M_2) 0 0 [(0, .ref (g.2.2 2)), (1, .int (zI a2)), (2, .ref (g.2.2 7)), (3, .int (zI a4)), (4, .int (zI v4_1))] 3 []) (fun rec_3 hrec_3 v4_1 M_2 h => ?_) _ _ _ h
  refine z_iload cx d_X12_copy_3 5 rfl 4 rfl ?_
  refine y_sipush cx d_X12_copy_5 8 rfl (by decide) ?_
  refine y_icmp_ge cx d_X12_copy_8 11 rfl 29 (by decide) rfl (nm_eq (x := 147) (by decide) (by decide)) h (fun h => ?_) (fun h => ?_)
  · subst hQ
    obtain rfl := Option.some.inj h
    exact z_vret cx d_X12_copy_29 rfl
  · refine z_aload_n cx d_X12_copy_11 12 rfl rfl 2 rfl ?_
    refine z_iload_n cx d_X12_copy_12 13 rfl rfl 3 rfl ?_
    refine z_iload cx d_X12_copy_13 15 rfl 4 rfl ?_
    refine y_iadd cx d_X12_copy_15 16 rfl ?_
    refine z_aload_n cx d_X12_copy_16 17 rfl rfl 0 rfl ?_
    refine z_iload_n cx d_X12_copy_17 18 rfl rfl 1 rfl ?_
    refine z_iload cx d_X12_copy_18 20 rfl 4 rfl ?_
    refine y_iadd cx d_X12_copy_20 21 rfl ?_
    refine y_ialdx cx d_X12_copy_21 22 rfl e_M_now (by decide) h (fun x_4 h => ?_)
    refine y_iast cx d_X12_copy_22 23 rfl e_M_live (by decide) h (fun _ h9 => s_M_live h9) (fun M_5 h => ?_)
    refine y_iinc cx 4 d_X12_copy_23 26 rfl rfl (by decide) (lv' := [(4, .int (zI (v4_1 + 1))), (0, .ref (g.2.2 2)), (1, .int (zI a2)), (2, .ref (g.2.2 7)), (3, .int (zI a4))]) rfl ?_
    refine z_goto cx d_X12_copy_26 3 (by decide) ?_
    refine z_sub [1, 2, 3, 4, 0] rfl ?_
    exact hrec_3 _ _ h
set_option maxHeartbeats 4000000 in
theorem tM_copy_before_now {l : Launch} {g : ZG} {M : ZB} {a2 : Int} {a4 : Int} {r : ZB} (h : fM_copy_before_now M a2 a4 = some r) : zMv l yX12_copy cX12_copy 5 none zr0 g [.ref (g.2.2 6), .int (zI a2), .ref (g.2.2 2), .int (zI a4)] (wM g M) (wM g r) := by
  unfold fM_copy_before_now at h
  refine zMv_q (own := RX12) rfl (by decide +kernel) (Nat.le_of_ble_eq_true rfl) (lv := [(0, .ref (g.2.2 6)), (1, .int (zI a2)), (2, .ref (g.2.2 2)), (3, .int (zI a4))]) rfl ⟨rfl, rfl⟩ ?_
  intro p e s m args below meth c A Q hQ cx
  refine y_iconst cx d_X12_copy_0 1 rfl ?_
  refine y_istore cx d_X12_copy_1 3 rfl (by decide) (lv' := [(4, .int (zI 0)), (0, .ref (g.2.2 6)), (1, .int (zI a2)), (2, .ref (g.2.2 2)), (3, .int (zI a4))]) rfl ?_
  refine z_sub [1, 2, 3, 4, 0] rfl ?_
  refine lop2_f (P := fun (v4_1 : Int) (M_2 : ZB) => V p l e zr0 s m args below meth c A s.heap g 5 Q (wM g M_2) 0 0 [(0, .ref (g.2.2 6)), (1, .int (zI a2)), (2, .ref (g.2.2 2)), (3, .int (zI a4)), (4, .int (zI v4_1))] 3 []) (fun rec_3 hrec_3 v4_1 M_2 h => ?_) _ _ _ h
  refine z_iload cx d_X12_copy_3 5 rfl 4 rfl ?_
  refine y_sipush cx d_X12_copy_5 8 rfl (by decide) ?_
  refine y_icmp_ge cx d_X12_copy_8 11 rfl 29 (by decide) rfl (nm_eq (x := 147) (by decide) (by decide)) h (fun h => ?_) (fun h => ?_)
  · subst hQ
    obtain rfl := Option.some.inj h
    exact z_vret cx d_X12_copy_29 rfl
  · refine z_aload_n cx d_X12_copy_11 12 rfl rfl 2 rfl ?_
    refine z_iload_n cx d_X12_copy_12 13 rfl rfl 3 rfl ?_
    refine z_iload cx d_X12_copy_13 15 rfl 4 rfl ?_
    refine y_iadd cx d_X12_copy_15 16 rfl ?_
    refine z_aload_n cx d_X12_copy_16 17 rfl rfl 0 rfl ?_
    refine z_iload_n cx d_X12_copy_17 18 rfl rfl 1 rfl ?_
    refine z_iload cx d_X12_copy_18 20 rfl 4 rfl ?_
    refine y_iadd cx d_X12_copy_20 21 rfl ?_
    refine y_ialdx cx d_X12_copy_21 22 rfl e_M_before (by decide) h (fun x_4 h => ?_)
    refine y_iast cx d_X12_copy_22 23 rfl e_M_now (by decide) h (fun _ h9 => s_M_now h9) (fun M_5 h => ?_)
    refine y_iinc cx 4 d_X12_copy_23 26 rfl rfl (by decide) (lv' := [(4, .int (zI (v4_1 + 1))), (0, .ref (g.2.2 6)), (1, .int (zI a2)), (2, .ref (g.2.2 2)), (3, .int (zI a4))]) rfl ?_
    refine z_goto cx d_X12_copy_26 3 (by decide) ?_
    refine z_sub [1, 2, 3, 4, 0] rfl ?_
    exact hrec_3 _ _ h
set_option maxHeartbeats 4000000 in
theorem tM_copy_live_now {l : Launch} {g : ZG} {M : ZB} {a2 : Int} {a4 : Int} {r : ZB} (h : fM_copy_live_now M a2 a4 = some r) : zMv l yX12_copy cX12_copy 5 none zr0 g [.ref (g.2.2 7), .int (zI a2), .ref (g.2.2 2), .int (zI a4)] (wM g M) (wM g r) := by
  unfold fM_copy_live_now at h
  refine zMv_q (own := RX12) rfl (by decide +kernel) (Nat.le_of_ble_eq_true rfl) (lv := [(0, .ref (g.2.2 7)), (1, .int (zI a2)), (2, .ref (g.2.2 2)), (3, .int (zI a4))]) rfl ⟨rfl, rfl⟩ ?_
  intro p e s m args below meth c A Q hQ cx
  refine y_iconst cx d_X12_copy_0 1 rfl ?_
  refine y_istore cx d_X12_copy_1 3 rfl (by decide) (lv' := [(4, .int (zI 0)), (0, .ref (g.2.2 7)), (1, .int (zI a2)), (2, .ref (g.2.2 2)), (3, .int (zI a4))]) rfl ?_
  refine z_sub [1, 2, 3, 4, 0] rfl ?_
  refine lop2_f (P := fun (v4_1 : Int) (M_2 : ZB) => V p l e zr0 s m args below meth c A s.heap g 5 Q (wM g M_2) 0 0 [(0, .ref (g.2.2 7)), (1, .int (zI a2)), (2, .ref (g.2.2 2)), (3, .int (zI a4)), (4, .int (zI v4_1))] 3 []) (fun rec_3 hrec_3 v4_1 M_2 h => ?_) _ _ _ h
  refine z_iload cx d_X12_copy_3 5 rfl 4 rfl ?_
  refine y_sipush cx d_X12_copy_5 8 rfl (by decide) ?_
  refine y_icmp_ge cx d_X12_copy_8 11 rfl 29 (by decide) rfl (nm_eq (x := 147) (by decide) (by decide)) h (fun h => ?_) (fun h => ?_)
  · subst hQ
    obtain rfl := Option.some.inj h
    exact z_vret cx d_X12_copy_29 rfl
  · refine z_aload_n cx d_X12_copy_11 12 rfl rfl 2 rfl ?_
    refine z_iload_n cx d_X12_copy_12 13 rfl rfl 3 rfl ?_
    refine z_iload cx d_X12_copy_13 15 rfl 4 rfl ?_
    refine y_iadd cx d_X12_copy_15 16 rfl ?_
    refine z_aload_n cx d_X12_copy_16 17 rfl rfl 0 rfl ?_
    refine z_iload_n cx d_X12_copy_17 18 rfl rfl 1 rfl ?_
    refine z_iload cx d_X12_copy_18 20 rfl 4 rfl ?_
    refine y_iadd cx d_X12_copy_20 21 rfl ?_
    refine y_ialdx cx d_X12_copy_21 22 rfl e_M_live (by decide) h (fun x_4 h => ?_)
    refine y_iast cx d_X12_copy_22 23 rfl e_M_now (by decide) h (fun _ h9 => s_M_now h9) (fun M_5 h => ?_)
    refine y_iinc cx 4 d_X12_copy_23 26 rfl rfl (by decide) (lv' := [(4, .int (zI (v4_1 + 1))), (0, .ref (g.2.2 7)), (1, .int (zI a2)), (2, .ref (g.2.2 2)), (3, .int (zI a4))]) rfl ?_
    refine z_goto cx d_X12_copy_26 3 (by decide) ?_
    refine z_sub [1, 2, 3, 4, 0] rfl ?_
    exact hrec_3 _ _ h
def zrM_stay : Room := { frames := 2, cells := 0, slots := 0, locals := 45 }
set_option maxHeartbeats 4000000 in
theorem tM_stay {l : Launch} {g : ZG} {M : ZB}  {r : ZB} (h : fM_stay M = some r) : zMv l yX12_stay cX12_stay 1 none zrM_stay g [.ref (g.2.2 0)] (wM g M) (wM g r) := by
  unfold fM_stay at h
  refine zMv_q (own := RX12) rfl (by decide +kernel) (Nat.le_of_ble_eq_true rfl) (lv := [(0, .ref (g.2.2 0))]) rfl ⟨rfl, rfl⟩ ?_
  intro p e s m args below meth c A Q hQ cx
  refine z_aload_n cx d_X12_stay_0 1 rfl rfl 0 rfl ?_
  refine z_get cx d_X12_stay_1 4 rfl e_M rfl zX12 12 (by decide) q_1373 rfl rfl ?_
  refine y_iconst cx d_X12_stay_4 5 rfl ?_
  refine z_aload_n cx d_X12_stay_5 6 rfl rfl 0 rfl ?_
  refine z_get cx d_X12_stay_6 9 rfl e_M rfl zX12 17 (by decide) q_1378 rfl rfl ?_
  refine y_iconst cx d_X12_stay_9 10 rfl ?_
  refine y_callS_v (As := [.ref (g.2.2 2), .int (zI 0), .ref (g.2.2 7), .int (zI 0)]) (rest := []) (W := fun u_1 => wM g u_1) (rm := zr0) cx (fun _ hq => tM_copy_now_live hq) d_X12_stay_10 13 rfl kk_X12_copy q_1563 q_1564 ⟨rfl, rfl⟩ ⟨Nat.le_of_ble_eq_true rfl, Nat.le_of_ble_eq_true rfl⟩ rfl rfl (Nat.le_of_ble_eq_true rfl) ⟨Nat.zero_le _, Nat.zero_le _⟩ h (fun u_1 h => ?_)
  refine z_aload_n cx d_X12_stay_13 14 rfl rfl 0 rfl ?_
  refine z_get cx d_X12_stay_14 17 rfl e_M rfl zX12 16 (by decide) q_1377 rfl rfl ?_
  refine y_iconst cx d_X12_stay_17 18 rfl ?_
  refine z_aload_n cx d_X12_stay_18 19 rfl rfl 0 rfl ?_
  refine z_get cx d_X12_stay_19 22 rfl e_M rfl zX12 12 (by decide) q_1373 rfl rfl ?_
  refine y_iconst cx d_X12_stay_22 23 rfl ?_
  refine y_callS_v (As := [.ref (g.2.2 6), .int (zI 0), .ref (g.2.2 2), .int (zI 0)]) (rest := []) (W := fun u_2 => wM g u_2) (rm := zr0) cx (fun _ hq => tM_copy_before_now hq) d_X12_stay_23 26 rfl kk_X12_copy q_1563 q_1564 ⟨rfl, rfl⟩ ⟨Nat.le_of_ble_eq_true rfl, Nat.le_of_ble_eq_true rfl⟩ rfl rfl (Nat.le_of_ble_eq_true rfl) ⟨Nat.zero_le _, Nat.zero_le _⟩ h (fun u_2 h => ?_)
  refine z_aload_n cx d_X12_stay_26 27 rfl rfl 0 rfl ?_
  refine y_callV_v (As := []) (rest := []) (W := fun u_3 => wM g u_3) (rm := zrM_snap) cx (fun _ hq => tM_snap hq) d_X12_stay_27 30 rfl kk_X12_snap q_1578 q_1580 q_62 rfl e_M rfl ⟨rfl, rfl⟩ ⟨Nat.le_of_ble_eq_true rfl, Nat.le_of_ble_eq_true rfl⟩ rfl rfl (Nat.le_of_ble_eq_true rfl) ⟨Nat.zero_le _, Nat.zero_le _⟩ h (fun u_3 h => ?_)
  refine z_aload_n cx d_X12_stay_30 31 rfl rfl 0 rfl ?_
  refine z_get cx d_X12_stay_31 34 rfl e_M rfl zX12 17 (by decide) q_1378 rfl rfl ?_
  refine y_iconst cx d_X12_stay_34 35 rfl ?_
  refine z_aload_n cx d_X12_stay_35 36 rfl rfl 0 rfl ?_
  refine z_get cx d_X12_stay_36 39 rfl e_M rfl zX12 12 (by decide) q_1373 rfl rfl ?_
  refine y_iconst cx d_X12_stay_39 40 rfl ?_
  refine y_callS_v (As := [.ref (g.2.2 7), .int (zI 0), .ref (g.2.2 2), .int (zI 0)]) (rest := []) (W := fun u_4 => wM g u_4) (rm := zr0) cx (fun _ hq => tM_copy_live_now hq) d_X12_stay_40 43 rfl kk_X12_copy q_1563 q_1564 ⟨rfl, rfl⟩ ⟨Nat.le_of_ble_eq_true rfl, Nat.le_of_ble_eq_true rfl⟩ rfl rfl (Nat.le_of_ble_eq_true rfl) ⟨Nat.zero_le _, Nat.zero_le _⟩ h (fun u_4 h => ?_)
  subst hQ
  obtain rfl := Option.some.inj h
  exact z_vret cx d_X12_stay_43 rfl
def zrM_places : Room := { frames := 5, cells := 0, slots := 0, locals := 118 }
set_option maxHeartbeats 4000000 in
theorem tM_places {l : Launch} {g : ZG} {M : ZB} {a1 : Int} {r : Int × ZB} (h : fM_places M a1 = some r) : zMi l yX12_places cX12_places 2 (some .boolean) zrM_places g [.ref (g.2.2 0), .int (zI a1)] (wM g M) (wM g r.2) (zI r.1) := by
  unfold fM_places at h
  refine zMi_q (own := RX12) rfl (by decide +kernel) (Nat.le_of_ble_eq_true rfl) (lv := [(0, .ref (g.2.2 0)), (1, .int (zI a1))]) rfl ⟨rfl, rfl⟩ ?_
  intro p e s m args below meth c A Q hQ cx
  refine z_aload_n cx d_X12_places_0 1 rfl rfl 0 rfl ?_
  refine z_iload_n cx d_X12_places_1 2 rfl rfl 1 rfl ?_
  refine y_callV_i (As := [.int (zI a1)]) (rest := []) (W := fun u_1 => wM g M) (rf := fun u_1 => zI u_1) (rm := zrM_isLoose) cx (fun _ hq => tM_isLoose hq) d_X12_places_2 5 rfl kk_X12_isLoose q_1672 q_1674 q_77 rfl e_M rfl ⟨rfl, rfl⟩ ⟨Nat.le_of_ble_eq_true rfl, Nat.le_of_ble_eq_true rfl⟩ rfl rfl (Nat.le_of_ble_eq_true rfl) ⟨Nat.zero_le _, Nat.zero_le _⟩ h (fun u_1 h => ?_)
  refine kf1_f (P := fun (M_2 : ZB) => V p l e zrM_places s m args below meth c A s.heap g 2 Q (wM g M_2) 0 0 [] 16 []) h (fun M_2 h => ?_) (fun k_3 hk_3 h => ?_)
  · refine y_iconst cx d_X12_places_16 17 rfl ?_
    subst hQ
    obtain rfl := Option.some.inj h
    exact z_zret cx d_X12_places_17 (zb01 (by decide)) rfl rfl
  refine y_if_eq cx d_X12_places_5 8 rfl 16 (by decide) rfl h (fun h => ?_) (fun h => ?_)
  · refine z_sub [] rfl ?_
    exact hk_3 _ h
  · refine z_aload_n cx d_X12_places_8 9 rfl rfl 0 rfl ?_
    refine z_iload_n cx d_X12_places_9 10 rfl rfl 1 rfl ?_
    refine y_callV_i (As := [.int (zI a1)]) (rest := []) (W := fun u_4 => wM g u_4.2) (rf := fun u_4 => zI u_4.1) (rm := zrM_laysChain) cx (fun _ hq => tM_laysChain hq) d_X12_places_10 13 rfl kk_X12_laysChain q_1680 q_1682 q_79 rfl e_M rfl ⟨rfl, rfl⟩ ⟨Nat.le_of_ble_eq_true rfl, Nat.le_of_ble_eq_true rfl⟩ rfl rfl (Nat.le_of_ble_eq_true rfl) ⟨Nat.zero_le _, Nat.zero_le _⟩ h (fun u_4 h => ?_)
    refine y_if_ne cx d_X12_places_13 16 rfl 18 (by decide) rfl h (fun h => ?_) (fun h => ?_)
    · refine z_aload_n cx d_X12_places_18 19 rfl rfl 0 rfl ?_
      refine y_callV_v (As := []) (rest := []) (W := fun u_5 => wM g u_5) (rm := zr0) cx (fun _ hq => tM_exchange hq) d_X12_places_19 22 rfl kk_X12_exchange q_1700 q_1702 q_84 rfl e_M rfl ⟨rfl, rfl⟩ ⟨Nat.le_of_ble_eq_true rfl, Nat.le_of_ble_eq_true rfl⟩ rfl rfl (Nat.le_of_ble_eq_true rfl) ⟨Nat.zero_le _, Nat.zero_le _⟩ h (fun u_5 h => ?_)
      refine y_iconst cx d_X12_places_22 23 rfl ?_
      subst hQ
      obtain rfl := Option.some.inj h
      exact z_zret cx d_X12_places_23 (zb01 (by decide)) rfl rfl
    · refine z_sub [] rfl ?_
      exact hk_3 _ h
def zrM_pack : Room := { frames := 6, cells := 0, slots := 0, locals := 139 }
set_option maxHeartbeats 4000000 in
theorem tM_pack {l : Launch} {g : ZG} {M : ZB}  {r : Int × ZB} (h : fM_pack M = some r) : zMi l yX12_pack cX12_pack 3 (some .int) zrM_pack g [.ref (g.2.2 0)] (wM g M) (wM g r.2) (zI r.1) := by
  unfold fM_pack at h
  refine zMi_q (own := RX12) rfl (by decide +kernel) (Nat.le_of_ble_eq_true rfl) (lv := [(0, .ref (g.2.2 0))]) rfl ⟨rfl, rfl⟩ ?_
  intro p e s m args below meth c A Q hQ cx
  refine z_aload_n cx d_X12_pack_0 1 rfl rfl 0 rfl ?_
  refine y_iconst cx d_X12_pack_1 2 rfl ?_
  refine y_put cx d_X12_pack_2 5 rfl e_M rfl zX12 tyX12_ok nmX12 0 (by decide) q_1361 rfl rfl rfl rfl (Nat.le_of_ble_eq_true rfl) h (fun _ h9 => s_M_0 h9) (fun M_1 h => ?_)
  refine z_aload_n cx d_X12_pack_5 6 rfl rfl 0 rfl ?_
  refine z_get cx d_X12_pack_6 9 rfl e_M rfl zX12 12 (by decide) q_1373 rfl rfl ?_
  refine y_iconst cx d_X12_pack_9 10 rfl ?_
  refine z_aload_n cx d_X12_pack_10 11 rfl rfl 0 rfl ?_
  refine z_get cx d_X12_pack_11 14 rfl e_M rfl zX12 16 (by decide) q_1377 rfl rfl ?_
  refine y_iconst cx d_X12_pack_14 15 rfl ?_
  refine y_callS_v (As := [.ref (g.2.2 2), .int (zI 0), .ref (g.2.2 6), .int (zI 0)]) (rest := []) (W := fun u_2 => wM g u_2) (rm := zr0) cx (fun _ hq => tM_copy_now_before hq) d_X12_pack_15 18 rfl kk_X12_copy q_1563 q_1564 ⟨rfl, rfl⟩ ⟨Nat.le_of_ble_eq_true rfl, Nat.le_of_ble_eq_true rfl⟩ rfl rfl (Nat.le_of_ble_eq_true rfl) ⟨Nat.zero_le _, Nat.zero_le _⟩ h (fun u_2 h => ?_)
  refine y_iconst cx d_X12_pack_18 19 rfl ?_
  refine y_istore_n cx d_X12_pack_19 20 rfl rfl (by decide) (lv' := [(1, .int (zI 0)), (0, .ref (g.2.2 0))]) rfl ?_
  refine y_iconst cx d_X12_pack_20 21 rfl ?_
  refine y_istore_n cx d_X12_pack_21 22 rfl rfl (by decide) (lv' := [(2, .int (zI 0)), (1, .int (zI 0)), (0, .ref (g.2.2 0))]) rfl ?_
  refine z_sub [2, 1, 0] rfl ?_
  refine lop3_f (P := fun (v1_3 : Int) (v2_4 : Int) (M_5 : ZB) => V p l e zrM_pack s m args below meth c A s.heap g 3 Q (wM g M_5) 0 0 [(0, .ref (g.2.2 0)), (1, .int (zI v1_3)), (2, .int (zI v2_4))] 22 []) (fun rec_6 hrec_6 v1_3 v2_4 M_5 h => ?_) _ _ _ _ h
  refine z_iload_n cx d_X12_pack_22 23 rfl rfl 2 rfl ?_
  refine z_aload_n cx d_X12_pack_23 24 rfl rfl 0 rfl ?_
  refine y_callV_i (As := []) (rest := [.int (zI v2_4)]) (W := fun u_7 => wM g M_5) (rf := fun u_7 => zI u_7) (rm := zr0) cx (fun _ hq => tM_lines hq) d_X12_pack_24 27 rfl kk_X12_lines q_1582 q_1584 q_63 rfl e_M rfl ⟨rfl, rfl⟩ ⟨Nat.le_of_ble_eq_true rfl, Nat.le_of_ble_eq_true rfl⟩ rfl rfl (Nat.le_of_ble_eq_true rfl) ⟨Nat.zero_le _, Nat.zero_le _⟩ h (fun u_7 h => ?_)
  refine y_icmp_ge cx d_X12_pack_27 30 rfl 47 (by decide) rfl rfl h (fun h => ?_) (fun h => ?_)
  · refine z_iload_n cx d_X12_pack_47 48 rfl rfl 1 rfl ?_
    refine kf1_f (P := fun (M_8 : ZB) => V p l e zrM_pack s m args below meth c A s.heap g 3 Q (wM g M_8) 0 0 [(1, .int (zI v1_3))] 55 []) h (fun M_8 h => ?_) (fun k_9 hk_9 h => ?_)
    · refine z_iload_n cx d_X12_pack_55 56 rfl rfl 0 rfl ?_
      subst hQ
      obtain rfl := Option.some.inj h
      exact z_iret cx d_X12_pack_56 rfl rfl
    refine y_if_le cx d_X12_pack_48 51 rfl 55 (by decide) rfl h (fun h => ?_) (fun h => ?_)
    · refine z_sub [1] rfl ?_
      exact hk_9 _ h
    · refine z_aload_n cx d_X12_pack_51 52 rfl rfl 0 rfl ?_
      refine y_callV_v (As := []) (rest := []) (W := fun u_10 => wM g u_10) (rm := zrM_stay) cx (fun _ hq => tM_stay hq) d_X12_pack_52 55 rfl kk_X12_stay q_1724 q_1726 q_86 rfl e_M rfl ⟨rfl, rfl⟩ ⟨Nat.le_of_ble_eq_true rfl, Nat.le_of_ble_eq_true rfl⟩ rfl rfl (Nat.le_of_ble_eq_true rfl) ⟨Nat.zero_le _, Nat.zero_le _⟩ h (fun u_10 h => ?_)
      refine z_sub [1] rfl ?_
      exact hk_9 _ h
  · refine z_aload_n cx d_X12_pack_30 31 rfl rfl 0 rfl ?_
    refine z_iload_n cx d_X12_pack_31 32 rfl rfl 2 rfl ?_
    refine y_callV_i (As := [.int (zI v2_4)]) (rest := []) (W := fun u_11 => wM g u_11.2) (rf := fun u_11 => zI u_11.1) (rm := zrM_places) cx (fun _ hq => tM_places hq) d_X12_pack_32 35 rfl kk_X12_places q_1720 q_1722 q_85 rfl e_M rfl ⟨rfl, rfl⟩ ⟨Nat.le_of_ble_eq_true rfl, Nat.le_of_ble_eq_true rfl⟩ rfl rfl (Nat.le_of_ble_eq_true rfl) ⟨Nat.zero_le _, Nat.zero_le _⟩ h (fun u_11 h => ?_)
    refine kf1_f (P := fun (v1_12 : Int) => V p l e zrM_pack s m args below meth c A s.heap g 3 Q (wM g u_11.2) 0 0 [(0, .ref (g.2.2 0)), (1, .int (zI v1_12)), (2, .int (zI v2_4))] 41 []) h (fun v1_12 h => ?_) (fun k_13 hk_13 h => ?_)
    · refine y_iinc cx 2 d_X12_pack_41 44 rfl rfl (by decide) (lv' := [(2, .int (zI (v2_4 + 1))), (0, .ref (g.2.2 0)), (1, .int (zI v1_12))]) rfl ?_
      refine z_goto cx d_X12_pack_44 22 (by decide) ?_
      refine z_sub [1, 2, 0] rfl ?_
      exact hrec_6 _ _ _ h
    refine y_if_eq cx d_X12_pack_35 38 rfl 41 (by decide) rfl h (fun h => ?_) (fun h => ?_)
    · exact hk_13 _ h
    · refine y_iinc cx 1 d_X12_pack_38 41 rfl rfl (by decide) (lv' := [(1, .int (zI (v1_3 + 1))), (0, .ref (g.2.2 0)), (2, .int (zI v2_4))]) rfl ?_
      refine z_sub [1, 0, 2] rfl ?_
      exact hk_13 _ h
def zrM_tradeOf : Room := { frames := 3, cells := 0, slots := 0, locals := 72 }
set_option maxHeartbeats 4000000 in
theorem tM_tradeOf {l : Launch} {g : ZG} {M : ZB} {a1 : Int} {a2 : Int} {r : Int} (h : fM_tradeOf M a1 a2 = some r) : zMi l yX12_tradeOf cX12_tradeOf 7 (some .int) zrM_tradeOf g [.ref (g.2.2 0), .int (zI a1), .int (zI a2)] (wM g M) (wM g M) (zI r) := by
  unfold fM_tradeOf at h
  refine zMi_q (own := RX12) rfl (by decide +kernel) (Nat.le_of_ble_eq_true rfl) (lv := [(0, .ref (g.2.2 0)), (1, .int (zI a1)), (2, .int (zI a2))]) rfl ⟨rfl, rfl⟩ ?_
  intro p e s m args below meth c A Q hQ cx
  refine z_aload_n cx d_X12_tradeOf_0 1 rfl rfl 0 rfl ?_
  refine z_iload_n cx d_X12_tradeOf_1 2 rfl rfl 1 rfl ?_
  refine y_callV_i (As := [.int (zI a1)]) (rest := []) (W := fun u_1 => wM g M) (rf := fun u_1 => zI u_1) (rm := zr0) cx (fun _ hq => tM_lies hq) d_X12_tradeOf_2 5 rfl kk_X12_lies q_1586 q_1588 q_64 rfl e_M rfl ⟨rfl, rfl⟩ ⟨Nat.le_of_ble_eq_true rfl, Nat.le_of_ble_eq_true rfl⟩ rfl rfl (Nat.le_of_ble_eq_true rfl) ⟨Nat.zero_le _, Nat.zero_le _⟩ h (fun u_1 h => ?_)
  refine y_istore_n cx d_X12_tradeOf_5 6 rfl rfl (by decide) (lv' := [(3, .int (zI u_1)), (0, .ref (g.2.2 0)), (1, .int (zI a1)), (2, .int (zI a2))]) rfl ?_
  refine z_iload_n cx d_X12_tradeOf_6 7 rfl rfl 0 rfl ?_
  refine y_iconst cx d_X12_tradeOf_7 8 rfl ?_
  refine kf0_f (P := V p l e zrM_tradeOf s m args below meth c A s.heap g 7 Q (wM g M) 0 0 [] 50 []) h (fun h => ?_) (fun k_2 hk_2 h => ?_)
  · refine y_iconst cx d_X12_tradeOf_50 51 rfl ?_
    subst hQ
    obtain rfl := Option.some.inj h
    exact z_iret cx d_X12_tradeOf_51 rfl rfl
  refine y_icmp_eq cx d_X12_tradeOf_8 11 rfl 50 (by decide) rfl (nm_eq (x := (-1)) (by decide) (by decide)) h (fun h => ?_) (fun h => ?_)
  · refine z_sub [] rfl ?_
    exact hk_2  h
  · refine z_iload_n cx d_X12_tradeOf_11 12 rfl rfl 0 rfl ?_
    refine z_iload_n cx d_X12_tradeOf_12 13 rfl rfl 3 rfl ?_
    refine y_icmp_eq cx d_X12_tradeOf_13 16 rfl 50 (by decide) rfl rfl h (fun h => ?_) (fun h => ?_)
    · refine z_sub [] rfl ?_
      exact hk_2  h
    · refine z_aload_n cx d_X12_tradeOf_16 17 rfl rfl 1 rfl ?_
      refine z_iload_n cx d_X12_tradeOf_17 18 rfl rfl 3 rfl ?_
      refine y_callV_i (As := [.int (zI a2)]) (rest := []) (W := fun u_3 => wM g M) (rf := fun u_3 => zI u_3) (rm := zrM_inForest) cx (fun _ hq => tM_inForest hq) d_X12_tradeOf_18 21 rfl kk_X12_inForest q_1614 q_1616 q_69 rfl e_M rfl ⟨rfl, rfl⟩ ⟨Nat.le_of_ble_eq_true rfl, Nat.le_of_ble_eq_true rfl⟩ rfl rfl (Nat.le_of_ble_eq_true rfl) ⟨Nat.zero_le _, Nat.zero_le _⟩ h (fun u_3 h => ?_)
      refine y_callS_i (As := [.int (zI u_3)]) (rest := []) (W := fun u_4 => wM g M) (rf := fun u_4 => zI u_4) (rm := zr0) cx (fun _ hq => tM_bits hq) d_X12_tradeOf_21 24 rfl kk_X12_bits q_1649 q_1650 ⟨rfl, rfl⟩ ⟨Nat.le_of_ble_eq_true rfl, Nat.le_of_ble_eq_true rfl⟩ rfl rfl (Nat.le_of_ble_eq_true rfl) ⟨Nat.zero_le _, Nat.zero_le _⟩ h (fun u_4 h => ?_)
      refine z_aload_n cx d_X12_tradeOf_24 25 rfl rfl 1 rfl ?_
      refine y_callV_i (As := []) (rest := [.int (zI u_4)]) (W := fun u_5 => wM g M) (rf := fun u_5 => zI u_5) (rm := zr0) cx (fun _ hq => tM_points hq) d_X12_tradeOf_25 28 rfl kk_X12_points q_1641 q_1643 q_73 rfl e_M rfl ⟨rfl, rfl⟩ ⟨Nat.le_of_ble_eq_true rfl, Nat.le_of_ble_eq_true rfl⟩ rfl rfl (Nat.le_of_ble_eq_true rfl) ⟨Nat.zero_le _, Nat.zero_le _⟩ h (fun u_5 h => ?_)
      refine y_iconst cx d_X12_tradeOf_28 29 rfl ?_
      refine y_isub cx d_X12_tradeOf_29 30 rfl ?_
      refine y_icmp_ne cx d_X12_tradeOf_30 33 rfl 50 (by decide) rfl rfl h (fun h => ?_) (fun h => ?_)
      · refine z_sub [] rfl ?_
        exact hk_2  h
      · refine z_aload_n cx d_X12_tradeOf_33 34 rfl rfl 1 rfl ?_
        refine z_iload_n cx d_X12_tradeOf_34 35 rfl rfl 0 rfl ?_
        refine y_callV_i (As := [.int (zI u_1)]) (rest := []) (W := fun u_6 => wM g M) (rf := fun u_6 => zI u_6) (rm := zrM_inForest) cx (fun _ hq => tM_inForest hq) d_X12_tradeOf_35 38 rfl kk_X12_inForest q_1614 q_1616 q_69 rfl e_M rfl ⟨rfl, rfl⟩ ⟨Nat.le_of_ble_eq_true rfl, Nat.le_of_ble_eq_true rfl⟩ rfl rfl (Nat.le_of_ble_eq_true rfl) ⟨Nat.zero_le _, Nat.zero_le _⟩ h (fun u_6 h => ?_)
        refine y_callS_i (As := [.int (zI u_6)]) (rest := []) (W := fun u_7 => wM g M) (rf := fun u_7 => zI u_7) (rm := zr0) cx (fun _ hq => tM_bits hq) d_X12_tradeOf_38 41 rfl kk_X12_bits q_1649 q_1650 ⟨rfl, rfl⟩ ⟨Nat.le_of_ble_eq_true rfl, Nat.le_of_ble_eq_true rfl⟩ rfl rfl (Nat.le_of_ble_eq_true rfl) ⟨Nat.zero_le _, Nat.zero_le _⟩ h (fun u_7 h => ?_)
        refine z_aload_n cx d_X12_tradeOf_41 42 rfl rfl 1 rfl ?_
        refine y_callV_i (As := []) (rest := [.int (zI u_7)]) (W := fun u_8 => wM g M) (rf := fun u_8 => zI u_8) (rm := zr0) cx (fun _ hq => tM_points hq) d_X12_tradeOf_42 45 rfl kk_X12_points q_1641 q_1643 q_73 rfl e_M rfl ⟨rfl, rfl⟩ ⟨Nat.le_of_ble_eq_true rfl, Nat.le_of_ble_eq_true rfl⟩ rfl rfl (Nat.le_of_ble_eq_true rfl) ⟨Nat.zero_le _, Nat.zero_le _⟩ h (fun u_8 h => ?_)
        refine y_iconst cx d_X12_tradeOf_45 46 rfl ?_
        refine y_isub cx d_X12_tradeOf_46 47 rfl ?_
        refine y_icmp_eq cx d_X12_tradeOf_47 50 rfl 52 (by decide) rfl rfl h (fun h => ?_) (fun h => ?_)
        · refine y_iconst cx d_X12_tradeOf_52 53 rfl ?_
          refine y_istore cx d_X12_tradeOf_53 55 rfl (by decide) (lv' := [(4, .int (zI 0)), (3, .int (zI u_1)), (0, .ref (g.2.2 0)), (1, .int (zI a1)), (2, .int (zI a2))]) rfl ?_
          refine z_sub [2, 3, 4, 1, 0] rfl ?_
          refine lop1_f (P := fun (v4_9 : Int) => V p l e zrM_tradeOf s m args below meth c A s.heap g 7 Q (wM g M) 0 0 [(0, .ref (g.2.2 0)), (1, .int (zI a1)), (2, .int (zI a2)), (3, .int (zI u_1)), (4, .int (zI v4_9))] 55 []) (fun rec_10 hrec_10 v4_9 h => ?_) _ _ h
          refine z_iload cx d_X12_tradeOf_55 57 rfl 4 rfl ?_
          refine z_aload_n cx d_X12_tradeOf_57 58 rfl rfl 0 rfl ?_
          refine y_callV_i (As := []) (rest := [.int (zI v4_9)]) (W := fun u_11 => wM g M) (rf := fun u_11 => zI u_11) (rm := zr0) cx (fun _ hq => tM_lines hq) d_X12_tradeOf_58 61 rfl kk_X12_lines q_1582 q_1584 q_63 rfl e_M rfl ⟨rfl, rfl⟩ ⟨Nat.le_of_ble_eq_true rfl, Nat.le_of_ble_eq_true rfl⟩ rfl rfl (Nat.le_of_ble_eq_true rfl) ⟨Nat.zero_le _, Nat.zero_le _⟩ h (fun u_11 h => ?_)
          refine y_icmp_ge cx d_X12_tradeOf_61 64 rfl 134 (by decide) rfl rfl h (fun h => ?_) (fun h => ?_)
          · refine y_iconst cx d_X12_tradeOf_134 135 rfl ?_
            subst hQ
            obtain rfl := Option.some.inj h
            exact z_iret cx d_X12_tradeOf_135 rfl rfl
          · refine z_aload_n cx d_X12_tradeOf_64 65 rfl rfl 0 rfl ?_
            refine z_iload cx d_X12_tradeOf_65 67 rfl 4 rfl ?_
            refine y_callV_i (As := [.int (zI v4_9)]) (rest := []) (W := fun u_12 => wM g M) (rf := fun u_12 => zI u_12) (rm := zr0) cx (fun _ hq => tM_lies hq) d_X12_tradeOf_67 70 rfl kk_X12_lies q_1586 q_1588 q_64 rfl e_M rfl ⟨rfl, rfl⟩ ⟨Nat.le_of_ble_eq_true rfl, Nat.le_of_ble_eq_true rfl⟩ rfl rfl (Nat.le_of_ble_eq_true rfl) ⟨Nat.zero_le _, Nat.zero_le _⟩ h (fun u_12 h => ?_)
            refine z_iload_n cx d_X12_tradeOf_70 71 rfl rfl 2 rfl ?_
            refine kf0_f (P := V p l e zrM_tradeOf s m args below meth c A s.heap g 7 Q (wM g M) 0 0 [(0, .ref (g.2.2 0)), (1, .int (zI a1)), (2, .int (zI a2)), (3, .int (zI u_1)), (4, .int (zI v4_9))] 128 []) h (fun h => ?_) (fun k_13 hk_13 h => ?_)
            · refine y_iinc cx 4 d_X12_tradeOf_128 131 rfl rfl (by decide) (lv' := [(4, .int (zI (v4_9 + 1))), (0, .ref (g.2.2 0)), (1, .int (zI a1)), (2, .int (zI a2)), (3, .int (zI u_1))]) rfl ?_
              refine z_goto cx d_X12_tradeOf_131 55 (by decide) ?_
              refine z_sub [1, 2, 3, 4, 0] rfl ?_
              exact hrec_10 _ h
            refine y_icmp_eq cx d_X12_tradeOf_71 74 rfl 77 (by decide) rfl rfl h (fun h => ?_) (fun h => ?_)
            · refine z_aload_n cx d_X12_tradeOf_77 78 rfl rfl 0 rfl ?_
              refine z_iload_n cx d_X12_tradeOf_78 79 rfl rfl 3 rfl ?_
              refine y_callV_i (As := [.int (zI u_1)]) (rest := []) (W := fun u_14 => wM g M) (rf := fun u_14 => zI u_14) (rm := zrM_inForest) cx (fun _ hq => tM_inForest hq) d_X12_tradeOf_79 82 rfl kk_X12_inForest q_1614 q_1616 q_69 rfl e_M rfl ⟨rfl, rfl⟩ ⟨Nat.le_of_ble_eq_true rfl, Nat.le_of_ble_eq_true rfl⟩ rfl rfl (Nat.le_of_ble_eq_true rfl) ⟨Nat.zero_le _, Nat.zero_le _⟩ h (fun u_14 h => ?_)
              refine y_iconst cx d_X12_tradeOf_82 83 rfl ?_
              refine z_iload_n cx d_X12_tradeOf_83 84 rfl rfl 1 rfl ?_
              refine y_ishl cx d_X12_tradeOf_84 85 rfl ?_
              refine y_iconst cx d_X12_tradeOf_85 86 rfl ?_
              refine y_ixor cx d_X12_tradeOf_86 87 rfl ?_
              refine y_iand cx d_X12_tradeOf_87 88 rfl ?_
              refine y_istore_b cx d_X12_tradeOf_88 90 rfl (by decide) (fun y => [(5, .int (zI y)), (0, .ref (g.2.2 0)), (1, .int (zI a1)), (2, .int (zI a2)), (3, .int (zI u_1)), (4, .int (zI v4_9))]) (fun y => rfl) h (fun v5_15 h => ?_)
              refine z_aload_n cx d_X12_tradeOf_90 91 rfl rfl 1 rfl ?_
              refine z_iload_n cx d_X12_tradeOf_91 92 rfl rfl 3 rfl ?_
              refine y_callV_i (As := [.int (zI a2)]) (rest := []) (W := fun u_16 => wM g M) (rf := fun u_16 => zI u_16) (rm := zrM_inForest) cx (fun _ hq => tM_inForest hq) d_X12_tradeOf_92 95 rfl kk_X12_inForest q_1614 q_1616 q_69 rfl e_M rfl ⟨rfl, rfl⟩ ⟨Nat.le_of_ble_eq_true rfl, Nat.le_of_ble_eq_true rfl⟩ rfl rfl (Nat.le_of_ble_eq_true rfl) ⟨Nat.zero_le _, Nat.zero_le _⟩ h (fun u_16 h => ?_)
              refine y_iconst cx d_X12_tradeOf_95 96 rfl ?_
              refine z_iload cx d_X12_tradeOf_96 98 rfl 5 rfl ?_
              refine y_ishl cx d_X12_tradeOf_98 99 rfl ?_
              refine y_iconst cx d_X12_tradeOf_99 100 rfl ?_
              refine y_ixor cx d_X12_tradeOf_100 101 rfl ?_
              refine y_iand cx d_X12_tradeOf_101 102 rfl ?_
              refine y_istore_b cx d_X12_tradeOf_102 104 rfl (by decide) (fun y => [(6, .int (zI y)), (5, .int (zI v5_15)), (0, .ref (g.2.2 0)), (1, .int (zI a1)), (2, .int (zI a2)), (3, .int (zI u_1)), (4, .int (zI v4_9))]) (fun y => rfl) h (fun v6_17 h => ?_)
              refine z_aload_n cx d_X12_tradeOf_104 105 rfl rfl 2 rfl ?_
              refine z_iload cx d_X12_tradeOf_105 107 rfl 6 rfl ?_
              refine z_iload cx d_X12_tradeOf_107 109 rfl 1 rfl ?_
              refine y_callV_i (As := [.int (zI v4_9), .int (zI v5_15)]) (rest := []) (W := fun u_18 => wM g M) (rf := fun u_18 => zI u_18) (rm := zrM_ringIn) cx (fun _ hq => tM_ringIn hq) d_X12_tradeOf_109 112 rfl kk_X12_ringIn q_1618 q_1620 q_70 rfl e_M rfl ⟨rfl, rfl⟩ ⟨Nat.le_of_ble_eq_true rfl, Nat.le_of_ble_eq_true rfl⟩ rfl rfl (Nat.le_of_ble_eq_true rfl) ⟨Nat.zero_le _, Nat.zero_le _⟩ h (fun u_18 h => ?_)
              refine y_if_ne cx d_X12_tradeOf_112 115 rfl 128 (by decide) rfl h (fun h => ?_) (fun h => ?_)
              · refine z_sub [2, 3, 4, 5, 6] rfl ?_
                exact hk_13  h
              · refine z_aload_n cx d_X12_tradeOf_115 116 rfl rfl 2 rfl ?_
                refine z_iload_n cx d_X12_tradeOf_116 117 rfl rfl 3 rfl ?_
                refine z_iload cx d_X12_tradeOf_117 119 rfl 0 rfl ?_
                refine y_callV_i (As := [.int (zI a1), .int (zI v6_17)]) (rest := []) (W := fun u_19 => wM g M) (rf := fun u_19 => zI u_19) (rm := zrM_ringIn) cx (fun _ hq => tM_ringIn hq) d_X12_tradeOf_119 122 rfl kk_X12_ringIn q_1618 q_1620 q_70 rfl e_M rfl ⟨rfl, rfl⟩ ⟨Nat.le_of_ble_eq_true rfl, Nat.le_of_ble_eq_true rfl⟩ rfl rfl (Nat.le_of_ble_eq_true rfl) ⟨Nat.zero_le _, Nat.zero_le _⟩ h (fun u_19 h => ?_)
                refine y_if_ne cx d_X12_tradeOf_122 125 rfl 128 (by decide) rfl h (fun h => ?_) (fun h => ?_)
                · refine z_sub [2, 3, 4, 5, 6] rfl ?_
                  exact hk_13  h
                · refine z_iload cx d_X12_tradeOf_125 127 rfl 6 rfl ?_
                  subst hQ
                  obtain rfl := Option.some.inj h
                  exact z_iret cx d_X12_tradeOf_127 rfl rfl
            · refine z_goto cx d_X12_tradeOf_74 128 (by decide) ?_
              exact hk_13  h
        · refine z_sub [] rfl ?_
          exact hk_2  h
def zrM_trades : Room := { frames := 1, cells := 0, slots := 0, locals := 21 }
set_option maxHeartbeats 4000000 in
theorem tM_trades {l : Launch} {g : ZG} {M : ZB} {a1 : Int} {a2 : Int} {r : ZB} (h : fM_trades M a1 a2 = some r) : zMv l yX12_trades cX12_trades 4 none zrM_trades g [.ref (g.2.2 0), .int (zI a1), .int (zI a2)] (wM g M) (wM g r) := by
  unfold fM_trades at h
  refine zMv_q (own := RX12) rfl (by decide +kernel) (Nat.le_of_ble_eq_true rfl) (lv := [(0, .ref (g.2.2 0)), (1, .int (zI a1)), (2, .int (zI a2))]) rfl ⟨rfl, rfl⟩ ?_
  intro p e s m args below meth c A Q hQ cx
  refine z_aload_n cx d_X12_trades_0 1 rfl rfl 0 rfl ?_
  refine z_iload_n cx d_X12_trades_1 2 rfl rfl 1 rfl ?_
  refine y_callV_i (As := [.int (zI a1)]) (rest := []) (W := fun u_1 => wM g M) (rf := fun u_1 => zI u_1) (rm := zr0) cx (fun _ hq => tM_lies hq) d_X12_trades_2 5 rfl kk_X12_lies q_1586 q_1588 q_64 rfl e_M rfl ⟨rfl, rfl⟩ ⟨Nat.le_of_ble_eq_true rfl, Nat.le_of_ble_eq_true rfl⟩ rfl rfl (Nat.le_of_ble_eq_true rfl) ⟨Nat.zero_le _, Nat.zero_le _⟩ h (fun u_1 h => ?_)
  refine y_istore_n cx d_X12_trades_5 6 rfl rfl (by decide) (lv' := [(3, .int (zI u_1)), (0, .ref (g.2.2 0)), (1, .int (zI a1)), (2, .int (zI a2))]) rfl ?_
  refine z_aload_n cx d_X12_trades_6 7 rfl rfl 1 rfl ?_
  refine z_get cx d_X12_trades_7 10 rfl e_M rfl zX12 12 (by decide) q_1373 rfl rfl ?_
  refine y_bipush cx d_X12_trades_10 12 rfl (by decide) ?_
  refine z_iload_n cx d_X12_trades_12 13 rfl rfl 2 rfl ?_
  refine y_iadd cx d_X12_trades_13 14 rfl ?_
  refine z_aload_n cx d_X12_trades_14 15 rfl rfl 1 rfl ?_
  refine z_iload_n cx d_X12_trades_15 16 rfl rfl 3 rfl ?_
  refine y_callV_i (As := [.int (zI a2)]) (rest := [.int (zI (75 + a1)), .ref (g.2.2 2)]) (W := fun u_2 => wM g M) (rf := fun u_2 => zI u_2) (rm := zr0) cx (fun _ hq => tM_lies hq) d_X12_trades_16 19 rfl kk_X12_lies q_1586 q_1588 q_64 rfl e_M rfl ⟨rfl, rfl⟩ ⟨Nat.le_of_ble_eq_true rfl, Nat.le_of_ble_eq_true rfl⟩ rfl rfl (Nat.le_of_ble_eq_true rfl) ⟨Nat.zero_le _, Nat.zero_le _⟩ h (fun u_2 h => ?_)
  refine y_iast cx d_X12_trades_19 20 rfl e_M_now (by decide) h (fun _ h9 => s_M_now h9) (fun M_3 h => ?_)
  refine z_aload_n cx d_X12_trades_20 21 rfl rfl 1 rfl ?_
  refine z_get cx d_X12_trades_21 24 rfl e_M rfl zX12 12 (by decide) q_1373 rfl rfl ?_
  refine y_bipush cx d_X12_trades_24 26 rfl (by decide) ?_
  refine z_iload_n cx d_X12_trades_26 27 rfl rfl 3 rfl ?_
  refine y_iadd cx d_X12_trades_27 28 rfl ?_
  refine z_iload_n cx d_X12_trades_28 29 rfl rfl 0 rfl ?_
  refine y_iast cx d_X12_trades_29 30 rfl e_M_now (by decide) h (fun _ h9 => s_M_now h9) (fun M_4 h => ?_)
  subst hQ
  obtain rfl := Option.some.inj h
  exact z_vret cx d_X12_trades_30 rfl
def zrM_trade : Room := { frames := 4, cells := 0, slots := 0, locals := 98 }
set_option maxHeartbeats 4000000 in
theorem tM_trade {l : Launch} {g : ZG} {M : ZB} {a1 : Int} {a2 : Int} {r : Int × ZB} (h : fM_trade M a1 a2 = some r) : zMi l yX12_trade cX12_trade 4 (some .int) zrM_trade g [.ref (g.2.2 0), .int (zI a1), .int (zI a2)] (wM g M) (wM g r.2) (zI r.1) := by
  unfold fM_trade at h
  refine zMi_q (own := RX12) rfl (by decide +kernel) (Nat.le_of_ble_eq_true rfl) (lv := [(0, .ref (g.2.2 0)), (1, .int (zI a1)), (2, .int (zI a2))]) rfl ⟨rfl, rfl⟩ ?_
  intro p e s m args below meth c A Q hQ cx
  refine z_aload_n cx d_X12_trade_0 1 rfl rfl 0 rfl ?_
  refine y_iconst cx d_X12_trade_1 2 rfl ?_
  refine y_put cx d_X12_trade_2 5 rfl e_M rfl zX12 tyX12_ok nmX12 0 (by decide) q_1361 rfl rfl rfl rfl (Nat.le_of_ble_eq_true rfl) h (fun _ h9 => s_M_0 h9) (fun M_1 h => ?_)
  refine z_aload_n cx d_X12_trade_5 6 rfl rfl 0 rfl ?_
  refine z_iload_n cx d_X12_trade_6 7 rfl rfl 1 rfl ?_
  refine y_callV_i (As := [.int (zI a1)]) (rest := []) (W := fun u_2 => wM g M_1) (rf := fun u_2 => zI u_2) (rm := zrM_isLine) cx (fun _ hq => tM_isLine hq) d_X12_trade_7 10 rfl kk_X12_isLine q_1594 q_1596 q_65 rfl e_M rfl ⟨rfl, rfl⟩ ⟨Nat.le_of_ble_eq_true rfl, Nat.le_of_ble_eq_true rfl⟩ rfl rfl (Nat.le_of_ble_eq_true rfl) ⟨Nat.zero_le _, Nat.zero_le _⟩ h (fun u_2 h => ?_)
  refine kf0_f (P := V p l e zrM_trade s m args below meth c A s.heap g 4 Q (wM g M_1) 0 0 [] 21 []) h (fun h => ?_) (fun k_3 hk_3 h => ?_)
  · refine y_iconst cx d_X12_trade_21 22 rfl ?_
    subst hQ
    obtain rfl := Option.some.inj h
    exact z_iret cx d_X12_trade_22 rfl rfl
  refine y_if_eq cx d_X12_trade_10 13 rfl 21 (by decide) rfl h (fun h => ?_) (fun h => ?_)
  · refine z_sub [] rfl ?_
    exact hk_3  h
  · refine z_aload_n cx d_X12_trade_13 14 rfl rfl 0 rfl ?_
    refine z_iload_n cx d_X12_trade_14 15 rfl rfl 2 rfl ?_
    refine y_callV_i (As := [.int (zI a2)]) (rest := []) (W := fun u_4 => wM g M_1) (rf := fun u_4 => zI u_4) (rm := zrM_isForest) cx (fun _ hq => tM_isForest hq) d_X12_trade_15 18 rfl kk_X12_isForest q_1606 q_1608 q_67 rfl e_M rfl ⟨rfl, rfl⟩ ⟨Nat.le_of_ble_eq_true rfl, Nat.le_of_ble_eq_true rfl⟩ rfl rfl (Nat.le_of_ble_eq_true rfl) ⟨Nat.zero_le _, Nat.zero_le _⟩ h (fun u_4 h => ?_)
    refine y_if_ne cx d_X12_trade_18 21 rfl 23 (by decide) rfl h (fun h => ?_) (fun h => ?_)
    · refine z_aload_n cx d_X12_trade_23 24 rfl rfl 0 rfl ?_
      refine z_iload_n cx d_X12_trade_24 25 rfl rfl 1 rfl ?_
      refine z_iload_n cx d_X12_trade_25 26 rfl rfl 2 rfl ?_
      refine y_callV_i (As := [.int (zI a1), .int (zI a2)]) (rest := []) (W := fun u_5 => wM g M_1) (rf := fun u_5 => zI u_5) (rm := zrM_tradeOf) cx (fun _ hq => tM_tradeOf hq) d_X12_trade_26 29 rfl kk_X12_tradeOf q_1732 q_1734 q_87 rfl e_M rfl ⟨rfl, rfl⟩ ⟨Nat.le_of_ble_eq_true rfl, Nat.le_of_ble_eq_true rfl⟩ rfl rfl (Nat.le_of_ble_eq_true rfl) ⟨Nat.zero_le _, Nat.zero_le _⟩ h (fun u_5 h => ?_)
      refine y_istore_n cx d_X12_trade_29 30 rfl rfl (by decide) (lv' := [(3, .int (zI u_5)), (0, .ref (g.2.2 0)), (1, .int (zI a1)), (2, .int (zI a2))]) rfl ?_
      refine z_iload_n cx d_X12_trade_30 31 rfl rfl 0 rfl ?_
      refine y_iconst cx d_X12_trade_31 32 rfl ?_
      refine y_icmp_ne cx d_X12_trade_32 35 rfl 37 (by decide) rfl (nm_eq (x := (-1)) (by decide) (by decide)) h (fun h => ?_) (fun h => ?_)
      · refine z_aload_n cx d_X12_trade_37 38 rfl rfl 1 rfl ?_
        refine y_callV_v (As := []) (rest := []) (W := fun u_6 => wM g u_6) (rm := zrM_snap) cx (fun _ hq => tM_snap hq) d_X12_trade_38 41 rfl kk_X12_snap q_1578 q_1580 q_62 rfl e_M rfl ⟨rfl, rfl⟩ ⟨Nat.le_of_ble_eq_true rfl, Nat.le_of_ble_eq_true rfl⟩ rfl rfl (Nat.le_of_ble_eq_true rfl) ⟨Nat.zero_le _, Nat.zero_le _⟩ h (fun u_6 h => ?_)
        refine z_aload_n cx d_X12_trade_41 42 rfl rfl 1 rfl ?_
        refine z_iload_n cx d_X12_trade_42 43 rfl rfl 2 rfl ?_
        refine z_iload_n cx d_X12_trade_43 44 rfl rfl 0 rfl ?_
        refine y_callV_v (As := [.int (zI a1), .int (zI u_5)]) (rest := []) (W := fun u_7 => wM g u_7) (rm := zrM_trades) cx (fun _ hq => tM_trades hq) d_X12_trade_44 47 rfl kk_X12_trades q_1736 q_1738 q_88 rfl e_M rfl ⟨rfl, rfl⟩ ⟨Nat.le_of_ble_eq_true rfl, Nat.le_of_ble_eq_true rfl⟩ rfl rfl (Nat.le_of_ble_eq_true rfl) ⟨Nat.zero_le _, Nat.zero_le _⟩ h (fun u_7 h => ?_)
        refine z_iload_n cx d_X12_trade_47 48 rfl rfl 0 rfl ?_
        subst hQ
        obtain rfl := Option.some.inj h
        exact z_iret cx d_X12_trade_48 rfl rfl
      · refine y_iconst cx d_X12_trade_35 36 rfl ?_
        subst hQ
        obtain rfl := Option.some.inj h
        exact z_iret cx d_X12_trade_36 rfl rfl
    · refine z_sub [] rfl ?_
      exact hk_3  h
set_option maxHeartbeats 4000000 in
theorem tM_flips {l : Launch} {g : ZG} {M : ZB} {a1 : Int} {r : ZB} (h : fM_flips M a1 = some r) : zMv l yX12_flips cX12_flips 2 none zr0 g [.ref (g.2.2 0), .int (zI a1)] (wM g M) (wM g r) := by
  unfold fM_flips at h
  refine zMv_q (own := RX12) rfl (by decide +kernel) (Nat.le_of_ble_eq_true rfl) (lv := [(0, .ref (g.2.2 0)), (1, .int (zI a1))]) rfl ⟨rfl, rfl⟩ ?_
  intro p e s m args below meth c A Q hQ cx
  refine z_aload_n cx d_X12_flips_0 1 rfl rfl 0 rfl ?_
  refine z_get cx d_X12_flips_1 4 rfl e_M rfl zX12 12 (by decide) q_1373 rfl rfl ?_
  refine y_bipush cx d_X12_flips_4 6 rfl (by decide) ?_
  refine z_iload_n cx d_X12_flips_6 7 rfl rfl 1 rfl ?_
  refine y_iadd cx d_X12_flips_7 8 rfl ?_
  refine y_iconst cx d_X12_flips_8 9 rfl ?_
  refine z_aload_n cx d_X12_flips_9 10 rfl rfl 0 rfl ?_
  refine z_get cx d_X12_flips_10 13 rfl e_M rfl zX12 12 (by decide) q_1373 rfl rfl ?_
  refine y_bipush cx d_X12_flips_13 15 rfl (by decide) ?_
  refine z_iload_n cx d_X12_flips_15 16 rfl rfl 1 rfl ?_
  refine y_iadd cx d_X12_flips_16 17 rfl ?_
  refine y_ialdx cx d_X12_flips_17 18 rfl e_M_now (by decide) h (fun x_1 h => ?_)
  refine y_isub cx d_X12_flips_18 19 rfl ?_
  refine y_iast cx d_X12_flips_19 20 rfl e_M_now (by decide) h (fun _ h9 => s_M_now h9) (fun M_2 h => ?_)
  refine z_aload_n cx d_X12_flips_20 21 rfl rfl 0 rfl ?_
  refine z_get cx d_X12_flips_21 24 rfl e_M rfl zX12 12 (by decide) q_1373 rfl rfl ?_
  refine y_bipush cx d_X12_flips_24 26 rfl (by decide) ?_
  refine z_iload_n cx d_X12_flips_26 27 rfl rfl 1 rfl ?_
  refine y_iadd cx d_X12_flips_27 28 rfl ?_
  refine y_iconst cx d_X12_flips_28 29 rfl ?_
  refine y_iast cx d_X12_flips_29 30 rfl e_M_now (by decide) h (fun _ h9 => s_M_now h9) (fun M_3 h => ?_)
  subst hQ
  obtain rfl := Option.some.inj h
  exact z_vret cx d_X12_flips_30 rfl
def zrM_flipsIf : Room := { frames := 2, cells := 0, slots := 0, locals := 45 }
set_option maxHeartbeats 4000000 in
theorem tM_flipsIf {l : Launch} {g : ZG} {M : ZB} {a1 : Int} {a2 : Int} {r : Int × ZB} (h : fM_flipsIf M a1 a2 = some r) : zMi l yX12_flipsIf cX12_flipsIf 3 (some .int) zrM_flipsIf g [.ref (g.2.2 0), .int (zI a1), .int (zI a2)] (wM g M) (wM g r.2) (zI r.1) := by
  unfold fM_flipsIf at h
  refine zMi_q (own := RX12) rfl (by decide +kernel) (Nat.le_of_ble_eq_true rfl) (lv := [(0, .ref (g.2.2 0)), (1, .int (zI a1)), (2, .int (zI a2))]) rfl ⟨rfl, rfl⟩ ?_
  intro p e s m args below meth c A Q hQ cx
  refine z_aload_n cx d_X12_flipsIf_0 1 rfl rfl 0 rfl ?_
  refine y_iconst cx d_X12_flipsIf_1 2 rfl ?_
  refine y_put cx d_X12_flipsIf_2 5 rfl e_M rfl zX12 tyX12_ok nmX12 0 (by decide) q_1361 rfl rfl rfl rfl (Nat.le_of_ble_eq_true rfl) h (fun _ h9 => s_M_0 h9) (fun M_1 h => ?_)
  refine z_aload_n cx d_X12_flipsIf_5 6 rfl rfl 0 rfl ?_
  refine z_iload_n cx d_X12_flipsIf_6 7 rfl rfl 1 rfl ?_
  refine y_callV_i (As := [.int (zI a1)]) (rest := []) (W := fun u_2 => wM g M_1) (rf := fun u_2 => zI u_2) (rm := zrM_isLine) cx (fun _ hq => tM_isLine hq) d_X12_flipsIf_7 10 rfl kk_X12_isLine q_1594 q_1596 q_65 rfl e_M rfl ⟨rfl, rfl⟩ ⟨Nat.le_of_ble_eq_true rfl, Nat.le_of_ble_eq_true rfl⟩ rfl rfl (Nat.le_of_ble_eq_true rfl) ⟨Nat.zero_le _, Nat.zero_le _⟩ h (fun u_2 h => ?_)
  refine y_if_ne cx d_X12_flipsIf_10 13 rfl 15 (by decide) rfl h (fun h => ?_) (fun h => ?_)
  · refine z_aload_n cx d_X12_flipsIf_15 16 rfl rfl 0 rfl ?_
    refine z_iload_n cx d_X12_flipsIf_16 17 rfl rfl 1 rfl ?_
    refine y_callV_i (As := [.int (zI a1)]) (rest := []) (W := fun u_3 => wM g M_1) (rf := fun u_3 => zI u_3) (rm := zr0) cx (fun _ hq => tM_isBroken hq) d_X12_flipsIf_17 20 rfl kk_X12_isBroken q_1610 q_1612 q_68 rfl e_M rfl ⟨rfl, rfl⟩ ⟨Nat.le_of_ble_eq_true rfl, Nat.le_of_ble_eq_true rfl⟩ rfl rfl (Nat.le_of_ble_eq_true rfl) ⟨Nat.zero_le _, Nat.zero_le _⟩ h (fun u_3 h => ?_)
    refine z_iload_n cx d_X12_flipsIf_20 21 rfl rfl 2 rfl ?_
    refine y_icmp_eq cx d_X12_flipsIf_21 24 rfl 26 (by decide) rfl rfl h (fun h => ?_) (fun h => ?_)
    · refine z_aload_n cx d_X12_flipsIf_26 27 rfl rfl 0 rfl ?_
      refine y_callV_v (As := []) (rest := []) (W := fun u_4 => wM g u_4) (rm := zrM_snap) cx (fun _ hq => tM_snap hq) d_X12_flipsIf_27 30 rfl kk_X12_snap q_1578 q_1580 q_62 rfl e_M rfl ⟨rfl, rfl⟩ ⟨Nat.le_of_ble_eq_true rfl, Nat.le_of_ble_eq_true rfl⟩ rfl rfl (Nat.le_of_ble_eq_true rfl) ⟨Nat.zero_le _, Nat.zero_le _⟩ h (fun u_4 h => ?_)
      refine z_aload_n cx d_X12_flipsIf_30 31 rfl rfl 0 rfl ?_
      refine z_iload_n cx d_X12_flipsIf_31 32 rfl rfl 1 rfl ?_
      refine y_callV_v (As := [.int (zI a1)]) (rest := []) (W := fun u_5 => wM g u_5) (rm := zr0) cx (fun _ hq => tM_flips hq) d_X12_flipsIf_32 35 rfl kk_X12_flips q_1748 q_1750 q_90 rfl e_M rfl ⟨rfl, rfl⟩ ⟨Nat.le_of_ble_eq_true rfl, Nat.le_of_ble_eq_true rfl⟩ rfl rfl (Nat.le_of_ble_eq_true rfl) ⟨Nat.zero_le _, Nat.zero_le _⟩ h (fun u_5 h => ?_)
      refine y_iconst cx d_X12_flipsIf_35 36 rfl ?_
      subst hQ
      obtain rfl := Option.some.inj h
      exact z_iret cx d_X12_flipsIf_36 rfl rfl
    · refine y_iconst cx d_X12_flipsIf_24 25 rfl ?_
      subst hQ
      obtain rfl := Option.some.inj h
      exact z_iret cx d_X12_flipsIf_25 rfl rfl
  · refine y_iconst cx d_X12_flipsIf_13 14 rfl ?_
    subst hQ
    obtain rfl := Option.some.inj h
    exact z_iret cx d_X12_flipsIf_14 rfl rfl
def zrM_breaks : Room := { frames := 3, cells := 0, slots := 0, locals := 67 }
set_option maxHeartbeats 4000000 in
theorem tM_breaks {l : Launch} {g : ZG} {M : ZB} {a1 : Int} {r : Int × ZB} (h : fM_breaks M a1 = some r) : zMi l yX12_breaks cX12_breaks 2 (some .int) zrM_breaks g [.ref (g.2.2 0), .int (zI a1)] (wM g M) (wM g r.2) (zI r.1) := by
  unfold fM_breaks at h
  refine zMi_q (own := RX12) rfl (by decide +kernel) (Nat.le_of_ble_eq_true rfl) (lv := [(0, .ref (g.2.2 0)), (1, .int (zI a1))]) rfl ⟨rfl, rfl⟩ ?_
  intro p e s m args below meth c A Q hQ cx
  refine z_aload_n cx d_X12_breaks_0 1 rfl rfl 0 rfl ?_
  refine z_iload_n cx d_X12_breaks_1 2 rfl rfl 1 rfl ?_
  refine y_iconst cx d_X12_breaks_2 3 rfl ?_
  refine y_callV_i (As := [.int (zI a1), .int (zI 0)]) (rest := []) (W := fun u_1 => wM g u_1.2) (rf := fun u_1 => zI u_1.1) (rm := zrM_flipsIf) cx (fun _ hq => tM_flipsIf hq) d_X12_breaks_3 6 rfl kk_X12_flipsIf q_1744 q_1746 q_89 rfl e_M rfl ⟨rfl, rfl⟩ ⟨Nat.le_of_ble_eq_true rfl, Nat.le_of_ble_eq_true rfl⟩ rfl rfl (Nat.le_of_ble_eq_true rfl) ⟨Nat.zero_le _, Nat.zero_le _⟩ h (fun u_1 h => ?_)
  subst hQ
  obtain rfl := Option.some.inj h
  exact z_iret cx d_X12_breaks_6 rfl rfl
def zrM_mend : Room := { frames := 3, cells := 0, slots := 0, locals := 67 }
set_option maxHeartbeats 4000000 in
theorem tM_mend {l : Launch} {g : ZG} {M : ZB} {a1 : Int} {r : Int × ZB} (h : fM_mend M a1 = some r) : zMi l yX12_mend cX12_mend 2 (some .int) zrM_mend g [.ref (g.2.2 0), .int (zI a1)] (wM g M) (wM g r.2) (zI r.1) := by
  unfold fM_mend at h
  refine zMi_q (own := RX12) rfl (by decide +kernel) (Nat.le_of_ble_eq_true rfl) (lv := [(0, .ref (g.2.2 0)), (1, .int (zI a1))]) rfl ⟨rfl, rfl⟩ ?_
  intro p e s m args below meth c A Q hQ cx
  refine z_aload_n cx d_X12_mend_0 1 rfl rfl 0 rfl ?_
  refine z_iload_n cx d_X12_mend_1 2 rfl rfl 1 rfl ?_
  refine y_iconst cx d_X12_mend_2 3 rfl ?_
  refine y_callV_i (As := [.int (zI a1), .int (zI 1)]) (rest := []) (W := fun u_1 => wM g u_1.2) (rf := fun u_1 => zI u_1.1) (rm := zrM_flipsIf) cx (fun _ hq => tM_flipsIf hq) d_X12_mend_3 6 rfl kk_X12_flipsIf q_1744 q_1746 q_89 rfl e_M rfl ⟨rfl, rfl⟩ ⟨Nat.le_of_ble_eq_true rfl, Nat.le_of_ble_eq_true rfl⟩ rfl rfl (Nat.le_of_ble_eq_true rfl) ⟨Nat.zero_le _, Nat.zero_le _⟩ h (fun u_1 h => ?_)
  subst hQ
  obtain rfl := Option.some.inj h
  exact z_iret cx d_X12_mend_6 rfl rfl
def zrM_weigh : Room := { frames := 2, cells := 0, slots := 0, locals := 45 }
set_option maxHeartbeats 4000000 in
theorem tM_weigh {l : Launch} {g : ZG} {M : ZB} {a1 : Int} {a2 : Int} {r : Int × ZB} (h : fM_weigh M a1 a2 = some r) : zMi l yX12_weigh cX12_weigh 3 (some .int) zrM_weigh g [.ref (g.2.2 0), .int (zI a1), .int (zI a2)] (wM g M) (wM g r.2) (zI r.1) := by
  unfold fM_weigh at h
  refine zMi_q (own := RX12) rfl (by decide +kernel) (Nat.le_of_ble_eq_true rfl) (lv := [(0, .ref (g.2.2 0)), (1, .int (zI a1)), (2, .int (zI a2))]) rfl ⟨rfl, rfl⟩ ?_
  intro p e s m args below meth c A Q hQ cx
  refine z_aload_n cx d_X12_weigh_0 1 rfl rfl 0 rfl ?_
  refine y_iconst cx d_X12_weigh_1 2 rfl ?_
  refine y_put cx d_X12_weigh_2 5 rfl e_M rfl zX12 tyX12_ok nmX12 0 (by decide) q_1361 rfl rfl rfl rfl (Nat.le_of_ble_eq_true rfl) h (fun _ h9 => s_M_0 h9) (fun M_1 h => ?_)
  refine z_aload_n cx d_X12_weigh_5 6 rfl rfl 0 rfl ?_
  refine z_iload_n cx d_X12_weigh_6 7 rfl rfl 1 rfl ?_
  refine y_callV_i (As := [.int (zI a1)]) (rest := []) (W := fun u_2 => wM g M_1) (rf := fun u_2 => zI u_2) (rm := zrM_isLine) cx (fun _ hq => tM_isLine hq) d_X12_weigh_7 10 rfl kk_X12_isLine q_1594 q_1596 q_65 rfl e_M rfl ⟨rfl, rfl⟩ ⟨Nat.le_of_ble_eq_true rfl, Nat.le_of_ble_eq_true rfl⟩ rfl rfl (Nat.le_of_ble_eq_true rfl) ⟨Nat.zero_le _, Nat.zero_le _⟩ h (fun u_2 h => ?_)
  refine kf0_f (P := V p l e zrM_weigh s m args below meth c A s.heap g 3 Q (wM g M_1) 0 0 [] 23 []) h (fun h => ?_) (fun k_3 hk_3 h => ?_)
  · refine y_iconst cx d_X12_weigh_23 24 rfl ?_
    subst hQ
    obtain rfl := Option.some.inj h
    exact z_iret cx d_X12_weigh_24 rfl rfl
  refine y_if_eq cx d_X12_weigh_10 13 rfl 23 (by decide) rfl h (fun h => ?_) (fun h => ?_)
  · refine z_sub [] rfl ?_
    exact hk_3  h
  · refine z_iload_n cx d_X12_weigh_13 14 rfl rfl 2 rfl ?_
    refine y_iconst cx d_X12_weigh_14 15 rfl ?_
    refine y_bipush cx d_X12_weigh_15 17 rfl (by decide) ?_
    refine y_callS_i (As := [.int (zI a2), .int (zI 1), .int (zI 99)]) (rest := []) (W := fun u_4 => wM g M_1) (rf := fun u_4 => zI u_4) (rm := zr0) cx (fun _ hq => tM_isIn hq) d_X12_weigh_17 20 rfl kk_X12_isIn q_1552 q_1553 ⟨rfl, rfl⟩ ⟨Nat.le_of_ble_eq_true rfl, Nat.le_of_ble_eq_true rfl⟩ rfl rfl (Nat.le_of_ble_eq_true rfl) ⟨Nat.zero_le _, Nat.zero_le _⟩ h (fun u_4 h => ?_)
    refine y_if_ne cx d_X12_weigh_20 23 rfl 25 (by decide) rfl h (fun h => ?_) (fun h => ?_)
    · refine z_aload_n cx d_X12_weigh_25 26 rfl rfl 0 rfl ?_
      refine z_get cx d_X12_weigh_26 29 rfl e_M rfl zX12 12 (by decide) q_1373 rfl rfl ?_
      refine y_bipush cx d_X12_weigh_29 31 rfl (by decide) ?_
      refine z_iload_n cx d_X12_weigh_31 32 rfl rfl 1 rfl ?_
      refine y_iadd cx d_X12_weigh_32 33 rfl ?_
      refine y_ialdx cx d_X12_weigh_33 34 rfl e_M_now (by decide) h (fun x_5 h => ?_)
      refine z_iload_n cx d_X12_weigh_34 35 rfl rfl 2 rfl ?_
      refine y_icmp_ne cx d_X12_weigh_35 38 rfl 40 (by decide) rfl rfl h (fun h => ?_) (fun h => ?_)
      · refine z_aload_n cx d_X12_weigh_40 41 rfl rfl 0 rfl ?_
        refine y_callV_v (As := []) (rest := []) (W := fun u_6 => wM g u_6) (rm := zrM_snap) cx (fun _ hq => tM_snap hq) d_X12_weigh_41 44 rfl kk_X12_snap q_1578 q_1580 q_62 rfl e_M rfl ⟨rfl, rfl⟩ ⟨Nat.le_of_ble_eq_true rfl, Nat.le_of_ble_eq_true rfl⟩ rfl rfl (Nat.le_of_ble_eq_true rfl) ⟨Nat.zero_le _, Nat.zero_le _⟩ h (fun u_6 h => ?_)
        refine z_aload_n cx d_X12_weigh_44 45 rfl rfl 0 rfl ?_
        refine z_get cx d_X12_weigh_45 48 rfl e_M rfl zX12 12 (by decide) q_1373 rfl rfl ?_
        refine y_bipush cx d_X12_weigh_48 50 rfl (by decide) ?_
        refine z_iload_n cx d_X12_weigh_50 51 rfl rfl 1 rfl ?_
        refine y_iadd cx d_X12_weigh_51 52 rfl ?_
        refine z_iload_n cx d_X12_weigh_52 53 rfl rfl 2 rfl ?_
        refine y_iast cx d_X12_weigh_53 54 rfl e_M_now (by decide) h (fun _ h9 => s_M_now h9) (fun M_7 h => ?_)
        refine y_iconst cx d_X12_weigh_54 55 rfl ?_
        subst hQ
        obtain rfl := Option.some.inj h
        exact z_iret cx d_X12_weigh_55 rfl rfl
      · refine y_iconst cx d_X12_weigh_38 39 rfl ?_
        subst hQ
        obtain rfl := Option.some.inj h
        exact z_iret cx d_X12_weigh_39 rfl rfl
    · refine z_sub [] rfl ?_
      exact hk_3  h
set_option maxHeartbeats 4000000 in
theorem tM_outOf {l : Launch} {g : ZG} {M : ZB} {a1 : Int} {r : Int} (h : fM_outOf M a1 = some r) : zMi l yX12_outOf cX12_outOf 2 (some .int) zr0 g [.ref (g.2.2 0), .int (zI a1)] (wM g M) (wM g M) (zI r) := by
  unfold fM_outOf at h
  refine zMi_q (own := RX12) rfl (by decide +kernel) (Nat.le_of_ble_eq_true rfl) (lv := [(0, .ref (g.2.2 0)), (1, .int (zI a1))]) rfl ⟨rfl, rfl⟩ ?_
  intro p e s m args below meth c A Q hQ cx
  refine z_aload_n cx d_X12_outOf_0 1 rfl rfl 0 rfl ?_
  refine z_get cx d_X12_outOf_1 4 rfl e_M rfl zX12 12 (by decide) q_1373 rfl rfl ?_
  refine z_aload_n cx d_X12_outOf_4 5 rfl rfl 0 rfl ?_
  refine z_get cx d_X12_outOf_5 8 rfl e_M rfl zX12 12 (by decide) q_1373 rfl rfl ?_
  refine y_bipush cx d_X12_outOf_8 10 rfl (by decide) ?_
  refine z_iload_n cx d_X12_outOf_10 11 rfl rfl 1 rfl ?_
  refine y_iadd cx d_X12_outOf_11 12 rfl ?_
  refine y_ialdx cx d_X12_outOf_12 13 rfl e_M_now (by decide) h (fun x_1 h => ?_)
  refine y_iconst cx d_X12_outOf_13 14 rfl ?_
  refine kf1_f (P := fun (w1_2 : Int) => V p l e zr0 s m args below meth c A s.heap g 2 Q (wM g M) 0 0 [(1, .int (zI a1))] 23 [.int (zI w1_2), .ref (g.2.2 2)]) h (fun w1_2 h => ?_) (fun k_3 hk_3 h => ?_)
  · refine z_iload_n cx d_X12_outOf_23 24 rfl rfl 0 rfl ?_
    refine y_iadd cx d_X12_outOf_24 25 rfl ?_
    refine y_ialdx cx d_X12_outOf_25 26 rfl e_M_now (by decide) h (fun x_4 h => ?_)
    subst hQ
    obtain rfl := Option.some.inj h
    exact z_iret cx d_X12_outOf_26 rfl rfl
  refine y_icmp_ne cx d_X12_outOf_14 17 rfl 22 (by decide) rfl (nm_eq (x := 1) (by decide) (by decide)) h (fun h => ?_) (fun h => ?_)
  · refine y_iconst cx d_X12_outOf_22 23 rfl ?_
    refine z_sub [1] rfl ?_
    exact hk_3 _ h
  · refine y_bipush cx d_X12_outOf_17 19 rfl (by decide) ?_
    refine z_goto cx d_X12_outOf_19 23 (by decide) ?_
    refine z_sub [1] rfl ?_
    exact hk_3 _ h
def zrM_turn : Room := { frames := 2, cells := 0, slots := 0, locals := 45 }
set_option maxHeartbeats 4000000 in
theorem tM_turn {l : Launch} {g : ZG} {M : ZB} {a1 : Int} {r : Int × ZB} (h : fM_turn M a1 = some r) : zMi l yX12_turn cX12_turn 2 (some .int) zrM_turn g [.ref (g.2.2 0), .int (zI a1)] (wM g M) (wM g r.2) (zI r.1) := by
  unfold fM_turn at h
  refine zMi_q (own := RX12) rfl (by decide +kernel) (Nat.le_of_ble_eq_true rfl) (lv := [(0, .ref (g.2.2 0)), (1, .int (zI a1))]) rfl ⟨rfl, rfl⟩ ?_
  intro p e s m args below meth c A Q hQ cx
  refine z_aload_n cx d_X12_turn_0 1 rfl rfl 0 rfl ?_
  refine y_iconst cx d_X12_turn_1 2 rfl ?_
  refine y_put cx d_X12_turn_2 5 rfl e_M rfl zX12 tyX12_ok nmX12 0 (by decide) q_1361 rfl rfl rfl rfl (Nat.le_of_ble_eq_true rfl) h (fun _ h9 => s_M_0 h9) (fun M_1 h => ?_)
  refine z_aload_n cx d_X12_turn_5 6 rfl rfl 0 rfl ?_
  refine z_iload_n cx d_X12_turn_6 7 rfl rfl 1 rfl ?_
  refine y_callV_i (As := [.int (zI a1)]) (rest := []) (W := fun u_2 => wM g M_1) (rf := fun u_2 => zI u_2) (rm := zrM_isLine) cx (fun _ hq => tM_isLine hq) d_X12_turn_7 10 rfl kk_X12_isLine q_1594 q_1596 q_65 rfl e_M rfl ⟨rfl, rfl⟩ ⟨Nat.le_of_ble_eq_true rfl, Nat.le_of_ble_eq_true rfl⟩ rfl rfl (Nat.le_of_ble_eq_true rfl) ⟨Nat.zero_le _, Nat.zero_le _⟩ h (fun u_2 h => ?_)
  refine y_if_ne cx d_X12_turn_10 13 rfl 15 (by decide) rfl h (fun h => ?_) (fun h => ?_)
  · refine z_aload_n cx d_X12_turn_15 16 rfl rfl 0 rfl ?_
    refine y_callV_v (As := []) (rest := []) (W := fun u_3 => wM g u_3) (rm := zrM_snap) cx (fun _ hq => tM_snap hq) d_X12_turn_16 19 rfl kk_X12_snap q_1578 q_1580 q_62 rfl e_M rfl ⟨rfl, rfl⟩ ⟨Nat.le_of_ble_eq_true rfl, Nat.le_of_ble_eq_true rfl⟩ rfl rfl (Nat.le_of_ble_eq_true rfl) ⟨Nat.zero_le _, Nat.zero_le _⟩ h (fun u_3 h => ?_)
    refine z_aload_n cx d_X12_turn_19 20 rfl rfl 0 rfl ?_
    refine z_get cx d_X12_turn_20 23 rfl e_M rfl zX12 12 (by decide) q_1373 rfl rfl ?_
    refine y_bipush cx d_X12_turn_23 25 rfl (by decide) ?_
    refine z_iload_n cx d_X12_turn_25 26 rfl rfl 1 rfl ?_
    refine y_iadd cx d_X12_turn_26 27 rfl ?_
    refine y_iconst cx d_X12_turn_27 28 rfl ?_
    refine z_aload_n cx d_X12_turn_28 29 rfl rfl 0 rfl ?_
    refine z_get cx d_X12_turn_29 32 rfl e_M rfl zX12 12 (by decide) q_1373 rfl rfl ?_
    refine y_bipush cx d_X12_turn_32 34 rfl (by decide) ?_
    refine z_iload_n cx d_X12_turn_34 35 rfl rfl 1 rfl ?_
    refine y_iadd cx d_X12_turn_35 36 rfl ?_
    refine y_ialdx cx d_X12_turn_36 37 rfl e_M_now (by decide) h (fun x_4 h => ?_)
    refine y_isub cx d_X12_turn_37 38 rfl ?_
    refine y_iast cx d_X12_turn_38 39 rfl e_M_now (by decide) h (fun _ h9 => s_M_now h9) (fun M_5 h => ?_)
    refine z_aload_n cx d_X12_turn_39 40 rfl rfl 0 rfl ?_
    refine z_iload_n cx d_X12_turn_40 41 rfl rfl 1 rfl ?_
    refine y_callV_i (As := [.int (zI a1)]) (rest := []) (W := fun u_6 => wM g M_5) (rf := fun u_6 => zI u_6) (rm := zr0) cx (fun _ hq => tM_outOf hq) d_X12_turn_41 44 rfl kk_X12_outOf q_1764 q_1766 q_91 rfl e_M rfl ⟨rfl, rfl⟩ ⟨Nat.le_of_ble_eq_true rfl, Nat.le_of_ble_eq_true rfl⟩ rfl rfl (Nat.le_of_ble_eq_true rfl) ⟨Nat.zero_le _, Nat.zero_le _⟩ h (fun u_6 h => ?_)
    subst hQ
    obtain rfl := Option.some.inj h
    exact z_iret cx d_X12_turn_44 rfl rfl
  · refine y_iconst cx d_X12_turn_13 14 rfl ?_
    subst hQ
    obtain rfl := Option.some.inj h
    exact z_iret cx d_X12_turn_14 rfl rfl
def zrM_isPoint : Room := { frames := 1, cells := 0, slots := 0, locals := 22 }
set_option maxHeartbeats 4000000 in
theorem tM_isPoint {l : Launch} {g : ZG} {M : ZB} {a1 : Int} {r : Int} (h : fM_isPoint M a1 = some r) : zMi l yX12_isPoint cX12_isPoint 2 (some .boolean) zrM_isPoint g [.ref (g.2.2 0), .int (zI a1)] (wM g M) (wM g M) (zI r) := by
  unfold fM_isPoint at h
  refine zMi_q (own := RX12) rfl (by decide +kernel) (Nat.le_of_ble_eq_true rfl) (lv := [(0, .ref (g.2.2 0)), (1, .int (zI a1))]) rfl ⟨rfl, rfl⟩ ?_
  intro p e s m args below meth c A Q hQ cx
  refine z_iload_n cx d_X12_isPoint_0 1 rfl rfl 1 rfl ?_
  refine y_iconst cx d_X12_isPoint_1 2 rfl ?_
  refine z_aload_n cx d_X12_isPoint_2 3 rfl rfl 0 rfl ?_
  refine y_callV_i (As := []) (rest := [.int (zI 0), .int (zI a1)]) (W := fun u_1 => wM g M) (rf := fun u_1 => zI u_1) (rm := zr0) cx (fun _ hq => tM_points hq) d_X12_isPoint_3 6 rfl kk_X12_points q_1641 q_1643 q_73 rfl e_M rfl ⟨rfl, rfl⟩ ⟨Nat.le_of_ble_eq_true rfl, Nat.le_of_ble_eq_true rfl⟩ rfl rfl (Nat.le_of_ble_eq_true rfl) ⟨Nat.zero_le _, Nat.zero_le _⟩ h (fun u_1 h => ?_)
  refine y_iconst cx d_X12_isPoint_6 7 rfl ?_
  refine y_isub cx d_X12_isPoint_7 8 rfl ?_
  refine y_callS_i (As := [.int (zI a1), .int (zI 0), .int (zI (u_1 - 1))]) (rest := []) (W := fun u_2 => wM g M) (rf := fun u_2 => zI u_2) (rm := zr0) cx (fun _ hq => tM_isIn hq) d_X12_isPoint_8 11 rfl kk_X12_isIn q_1552 q_1553 ⟨rfl, rfl⟩ ⟨Nat.le_of_ble_eq_true rfl, Nat.le_of_ble_eq_true rfl⟩ rfl rfl (Nat.le_of_ble_eq_true rfl) ⟨Nat.zero_le _, Nat.zero_le _⟩ h (fun u_2 h => ?_)
  obtain ⟨hz, h⟩ := zo_i h
  subst hQ
  obtain rfl := Option.some.inj h
  exact z_zret cx d_X12_isPoint_11 (zb01 hz) rfl rfl
def zrM_loadOf : Room := { frames := 1, cells := 0, slots := 0, locals := 21 }
set_option maxHeartbeats 4000000 in
theorem tM_loadOf {l : Launch} {g : ZG} {M : ZB} {a1 : Int} {r : Int} (h : fM_loadOf M a1 = some r) : zMi l yX12_loadOf cX12_loadOf 4 (some .int) zrM_loadOf g [.ref (g.2.2 0), .int (zI a1)] (wM g M) (wM g M) (zI r) := by
  unfold fM_loadOf at h
  refine zMi_q (own := RX12) rfl (by decide +kernel) (Nat.le_of_ble_eq_true rfl) (lv := [(0, .ref (g.2.2 0)), (1, .int (zI a1))]) rfl ⟨rfl, rfl⟩ ?_
  intro p e s m args below meth c A Q hQ cx
  refine y_iconst cx d_X12_loadOf_0 1 rfl ?_
  refine y_istore_n cx d_X12_loadOf_1 2 rfl rfl (by decide) (lv' := [(2, .int (zI 0)), (0, .ref (g.2.2 0)), (1, .int (zI a1))]) rfl ?_
  refine y_iconst cx d_X12_loadOf_2 3 rfl ?_
  refine y_istore_n cx d_X12_loadOf_3 4 rfl rfl (by decide) (lv' := [(3, .int (zI 0)), (2, .int (zI 0)), (0, .ref (g.2.2 0)), (1, .int (zI a1))]) rfl ?_
  refine z_sub [2, 3, 1, 0] rfl ?_
  refine lop2_f (P := fun (v2_1 : Int) (v3_2 : Int) => V p l e zrM_loadOf s m args below meth c A s.heap g 4 Q (wM g M) 0 0 [(0, .ref (g.2.2 0)), (1, .int (zI a1)), (2, .int (zI v2_1)), (3, .int (zI v3_2))] 4 []) (fun rec_3 hrec_3 v2_1 v3_2 h => ?_) _ _ _ h
  refine z_iload_n cx d_X12_loadOf_4 5 rfl rfl 3 rfl ?_
  refine z_aload_n cx d_X12_loadOf_5 6 rfl rfl 0 rfl ?_
  refine y_callV_i (As := []) (rest := [.int (zI v3_2)]) (W := fun u_4 => wM g M) (rf := fun u_4 => zI u_4) (rm := zr0) cx (fun _ hq => tM_lines hq) d_X12_loadOf_6 9 rfl kk_X12_lines q_1582 q_1584 q_63 rfl e_M rfl ⟨rfl, rfl⟩ ⟨Nat.le_of_ble_eq_true rfl, Nat.le_of_ble_eq_true rfl⟩ rfl rfl (Nat.le_of_ble_eq_true rfl) ⟨Nat.zero_le _, Nat.zero_le _⟩ h (fun u_4 h => ?_)
  refine y_icmp_ge cx d_X12_loadOf_9 12 rfl 38 (by decide) rfl rfl h (fun h => ?_) (fun h => ?_)
  · refine z_iload_n cx d_X12_loadOf_38 39 rfl rfl 2 rfl ?_
    subst hQ
    obtain rfl := Option.some.inj h
    exact z_iret cx d_X12_loadOf_39 rfl rfl
  · refine z_aload_n cx d_X12_loadOf_12 13 rfl rfl 0 rfl ?_
    refine z_iload_n cx d_X12_loadOf_13 14 rfl rfl 3 rfl ?_
    refine y_callV_i (As := [.int (zI v3_2)]) (rest := []) (W := fun u_5 => wM g M) (rf := fun u_5 => zI u_5) (rm := zr0) cx (fun _ hq => tM_isBroken hq) d_X12_loadOf_14 17 rfl kk_X12_isBroken q_1610 q_1612 q_68 rfl e_M rfl ⟨rfl, rfl⟩ ⟨Nat.le_of_ble_eq_true rfl, Nat.le_of_ble_eq_true rfl⟩ rfl rfl (Nat.le_of_ble_eq_true rfl) ⟨Nat.zero_le _, Nat.zero_le _⟩ h (fun u_5 h => ?_)
    refine kf1_f (P := fun (v2_6 : Int) => V p l e zrM_loadOf s m args below meth c A s.heap g 4 Q (wM g M) 0 0 [(0, .ref (g.2.2 0)), (1, .int (zI a1)), (2, .int (zI v2_6)), (3, .int (zI v3_2))] 32 []) h (fun v2_6 h => ?_) (fun k_7 hk_7 h => ?_)
    · refine y_iinc cx 3 d_X12_loadOf_32 35 rfl rfl (by decide) (lv' := [(3, .int (zI (v3_2 + 1))), (0, .ref (g.2.2 0)), (1, .int (zI a1)), (2, .int (zI v2_6))]) rfl ?_
      refine z_goto cx d_X12_loadOf_35 4 (by decide) ?_
      refine z_sub [1, 2, 3, 0] rfl ?_
      exact hrec_3 _ _ h
    refine y_if_ne cx d_X12_loadOf_17 20 rfl 32 (by decide) rfl h (fun h => ?_) (fun h => ?_)
    · exact hk_7 _ h
    · refine z_aload_n cx d_X12_loadOf_20 21 rfl rfl 0 rfl ?_
      refine z_iload_n cx d_X12_loadOf_21 22 rfl rfl 3 rfl ?_
      refine y_callV_i (As := [.int (zI v3_2)]) (rest := []) (W := fun u_8 => wM g M) (rf := fun u_8 => zI u_8) (rm := zr0) cx (fun _ hq => tM_outOf hq) d_X12_loadOf_22 25 rfl kk_X12_outOf q_1764 q_1766 q_91 rfl e_M rfl ⟨rfl, rfl⟩ ⟨Nat.le_of_ble_eq_true rfl, Nat.le_of_ble_eq_true rfl⟩ rfl rfl (Nat.le_of_ble_eq_true rfl) ⟨Nat.zero_le _, Nat.zero_le _⟩ h (fun u_8 h => ?_)
      refine z_iload_n cx d_X12_loadOf_25 26 rfl rfl 1 rfl ?_
      refine y_icmp_ne cx d_X12_loadOf_26 29 rfl 32 (by decide) rfl rfl h (fun h => ?_) (fun h => ?_)
      · exact hk_7 _ h
      · refine y_iinc cx 2 d_X12_loadOf_29 32 rfl rfl (by decide) (lv' := [(2, .int (zI (v2_1 + 1))), (0, .ref (g.2.2 0)), (1, .int (zI a1)), (3, .int (zI v3_2))]) rfl ?_
        refine z_sub [1, 2, 0, 3] rfl ?_
        exact hk_7 _ h
def zrM_load : Room := { frames := 2, cells := 0, slots := 0, locals := 44 }
set_option maxHeartbeats 4000000 in
theorem tM_load {l : Launch} {g : ZG} {M : ZB} {a1 : Int} {r : Int × ZB} (h : fM_load M a1 = some r) : zMi l yX12_load cX12_load 2 (some .int) zrM_load g [.ref (g.2.2 0), .int (zI a1)] (wM g M) (wM g r.2) (zI r.1) := by
  unfold fM_load at h
  refine zMi_q (own := RX12) rfl (by decide +kernel) (Nat.le_of_ble_eq_true rfl) (lv := [(0, .ref (g.2.2 0)), (1, .int (zI a1))]) rfl ⟨rfl, rfl⟩ ?_
  intro p e s m args below meth c A Q hQ cx
  refine z_aload_n cx d_X12_load_0 1 rfl rfl 0 rfl ?_
  refine y_iconst cx d_X12_load_1 2 rfl ?_
  refine y_put cx d_X12_load_2 5 rfl e_M rfl zX12 tyX12_ok nmX12 0 (by decide) q_1361 rfl rfl rfl rfl (Nat.le_of_ble_eq_true rfl) h (fun _ h9 => s_M_0 h9) (fun M_1 h => ?_)
  refine z_aload_n cx d_X12_load_5 6 rfl rfl 0 rfl ?_
  refine z_iload_n cx d_X12_load_6 7 rfl rfl 1 rfl ?_
  refine y_callV_i (As := [.int (zI a1)]) (rest := []) (W := fun u_2 => wM g M_1) (rf := fun u_2 => zI u_2) (rm := zrM_isPoint) cx (fun _ hq => tM_isPoint hq) d_X12_load_7 10 rfl kk_X12_isPoint q_1772 q_1774 q_92 rfl e_M rfl ⟨rfl, rfl⟩ ⟨Nat.le_of_ble_eq_true rfl, Nat.le_of_ble_eq_true rfl⟩ rfl rfl (Nat.le_of_ble_eq_true rfl) ⟨Nat.zero_le _, Nat.zero_le _⟩ h (fun u_2 h => ?_)
  refine kf1_f (P := fun (w0_3 : Int) => V p l e zrM_load s m args below meth c A s.heap g 2 Q (wM g M_1) 0 0 [] 22 [.int (zI w0_3)]) h (fun w0_3 h => ?_) (fun k_4 hk_4 h => ?_)
  · subst hQ
    obtain rfl := Option.some.inj h
    exact z_iret cx d_X12_load_22 rfl rfl
  refine y_if_eq cx d_X12_load_10 13 rfl 21 (by decide) rfl h (fun h => ?_) (fun h => ?_)
  · refine y_iconst cx d_X12_load_21 22 rfl ?_
    refine z_sub [] rfl ?_
    exact hk_4 _ h
  · refine z_aload_n cx d_X12_load_13 14 rfl rfl 0 rfl ?_
    refine z_iload_n cx d_X12_load_14 15 rfl rfl 1 rfl ?_
    refine y_callV_i (As := [.int (zI a1)]) (rest := []) (W := fun u_5 => wM g M_1) (rf := fun u_5 => zI u_5) (rm := zrM_loadOf) cx (fun _ hq => tM_loadOf hq) d_X12_load_15 18 rfl kk_X12_loadOf q_1776 q_1778 q_93 rfl e_M rfl ⟨rfl, rfl⟩ ⟨Nat.le_of_ble_eq_true rfl, Nat.le_of_ble_eq_true rfl⟩ rfl rfl (Nat.le_of_ble_eq_true rfl) ⟨Nat.zero_le _, Nat.zero_le _⟩ h (fun u_5 h => ?_)
    refine z_goto cx d_X12_load_18 22 (by decide) ?_
    refine z_sub [] rfl ?_
    exact hk_4 _ h
set_option maxHeartbeats 4000000 in
theorem tM_towards {l : Launch} {g : ZG} {M : ZB} {a1 : Int} {r : Int} (h : fM_towards M a1 = some r) : zMi l yX12_towards cX12_towards 2 (some .int) zr0 g [.ref (g.2.2 0), .int (zI a1)] (wM g M) (wM g M) (zI r) := by
  unfold fM_towards at h
  refine zMi_q (own := RX12) rfl (by decide +kernel) (Nat.le_of_ble_eq_true rfl) (lv := [(0, .ref (g.2.2 0)), (1, .int (zI a1))]) rfl ⟨rfl, rfl⟩ ?_
  intro p e s m args below meth c A Q hQ cx
  refine z_aload_n cx d_X12_towards_0 1 rfl rfl 0 rfl ?_
  refine z_get cx d_X12_towards_1 4 rfl e_M rfl zX12 12 (by decide) q_1373 rfl rfl ?_
  refine z_aload_n cx d_X12_towards_4 5 rfl rfl 0 rfl ?_
  refine z_get cx d_X12_towards_5 8 rfl e_M rfl zX12 12 (by decide) q_1373 rfl rfl ?_
  refine y_bipush cx d_X12_towards_8 10 rfl (by decide) ?_
  refine z_iload_n cx d_X12_towards_10 11 rfl rfl 1 rfl ?_
  refine y_iadd cx d_X12_towards_11 12 rfl ?_
  refine y_ialdx cx d_X12_towards_12 13 rfl e_M_now (by decide) h (fun x_1 h => ?_)
  refine y_iconst cx d_X12_towards_13 14 rfl ?_
  refine kf1_f (P := fun (w1_2 : Int) => V p l e zr0 s m args below meth c A s.heap g 2 Q (wM g M) 0 0 [(1, .int (zI a1))] 23 [.int (zI w1_2), .ref (g.2.2 2)]) h (fun w1_2 h => ?_) (fun k_3 hk_3 h => ?_)
  · refine z_iload_n cx d_X12_towards_23 24 rfl rfl 0 rfl ?_
    refine y_iadd cx d_X12_towards_24 25 rfl ?_
    refine y_ialdx cx d_X12_towards_25 26 rfl e_M_now (by decide) h (fun x_4 h => ?_)
    subst hQ
    obtain rfl := Option.some.inj h
    exact z_iret cx d_X12_towards_26 rfl rfl
  refine y_icmp_ne cx d_X12_towards_14 17 rfl 21 (by decide) rfl (nm_eq (x := 1) (by decide) (by decide)) h (fun h => ?_) (fun h => ?_)
  · refine y_bipush cx d_X12_towards_21 23 rfl (by decide) ?_
    refine z_sub [1] rfl ?_
    exact hk_3 _ h
  · refine y_iconst cx d_X12_towards_17 18 rfl ?_
    refine z_goto cx d_X12_towards_18 23 (by decide) ?_
    refine z_sub [1] rfl ?_
    exact hk_3 _ h
