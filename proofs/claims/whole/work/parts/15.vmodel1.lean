-- needs: 06.world 07.fun 08.links5 09.dec1 09.dec2 09.dec3 09.dec4
set_option maxHeartbeats 4000000 in
theorem tM_thrown {l : Launch} {g : ZG} {M : ZB}  {r : Int} (h : fM_thrown M = some r) : zMi l yX12_thrown cX12_thrown 1 (some .int) zr0 g [.ref (g.2.2 0)] (wM g M) (wM g M) (zI r) := by
  unfold fM_thrown at h
  refine zMi_q (own := RX12) rfl (by decide +kernel) (Nat.le_of_ble_eq_true rfl) (lv := [(0, .ref (g.2.2 0))]) rfl ⟨rfl, rfl⟩ ?_
  intro p e s m args below meth c A Q hQ cx
  refine z_aload_n cx d_X12_thrown_0 1 rfl rfl 0 rfl ?_
  refine z_get cx d_X12_thrown_1 4 rfl e_M rfl zX12 0 (by decide) q_1361 rfl rfl ?_
  subst hQ
  obtain rfl := Option.some.inj h
  exact z_iret cx d_X12_thrown_4 rfl rfl
set_option maxHeartbeats 4000000 in
theorem tM_come {l : Launch} {g : ZG} {M : ZB} {a1 : Int} {r : ZB} (h : fM_come M a1 = some r) : zMv l yX12_come cX12_come 3 none zr0 g [.ref (g.2.2 0), .int (zI a1)] (wM g M) (wM g r) := by
  unfold fM_come at h
  refine zMv_q (own := RX12) rfl (by decide +kernel) (Nat.le_of_ble_eq_true rfl) (lv := [(0, .ref (g.2.2 0)), (1, .int (zI a1))]) rfl ⟨rfl, rfl⟩ ?_
  intro p e s m args below meth c A Q hQ cx
  refine y_bipush cx d_X12_come_0 2 rfl (by decide) ?_
  refine y_istore_n cx d_X12_come_2 3 rfl rfl (by decide) (lv' := [(2, .int (zI 24)), (0, .ref (g.2.2 0)), (1, .int (zI a1))]) rfl ?_
  refine z_sub [1, 2, 0] rfl ?_
  refine lop2_f (P := fun (v2_1 : Int) (M_2 : ZB) => V p l e zr0 s m args below meth c A s.heap g 3 Q (wM g M_2) 0 0 [(0, .ref (g.2.2 0)), (1, .int (zI a1)), (2, .int (zI v2_1))] 3 []) (fun rec_3 hrec_3 v2_1 M_2 h => ?_) _ _ _ h
  refine z_iload_n cx d_X12_come_3 4 rfl rfl 2 rfl ?_
  refine y_if_lt cx d_X12_come_4 7 rfl 39 (by decide) rfl h (fun h => ?_) (fun h => ?_)
  · subst hQ
    obtain rfl := Option.some.inj h
    exact z_vret cx d_X12_come_39 rfl
  · refine z_aload_n cx d_X12_come_7 8 rfl rfl 0 rfl ?_
    refine z_get cx d_X12_come_8 11 rfl e_M rfl zX12 1 (by decide) q_1362 rfl rfl ?_
    refine z_aload_n cx d_X12_come_11 12 rfl rfl 0 rfl ?_
    refine z_get cx d_X12_come_12 15 rfl e_M rfl zX12 2 (by decide) q_1363 rfl rfl ?_
    refine z_iload_n cx d_X12_come_15 16 rfl rfl 1 rfl ?_
    refine z_iload_n cx d_X12_come_16 17 rfl rfl 2 rfl ?_
    refine y_iushr cx d_X12_come_17 18 rfl ?_
    refine y_sipush cx d_X12_come_18 21 rfl (by decide) ?_
    refine y_iand cx d_X12_come_21 22 rfl ?_
    refine y_iast cx d_X12_come_22 23 rfl e_M_tape (by decide) h (fun _ h9 => s_M_tape h9) (fun M_4 h => ?_)
    refine z_aload_n cx d_X12_come_23 24 rfl rfl 0 rfl ?_
    refine z_dup cx d_X12_come_24 25 rfl rfl ?_
    refine z_get cx d_X12_come_25 28 rfl e_M rfl zX12 2 (by decide) q_1363 rfl rfl ?_
    refine y_iconst cx d_X12_come_28 29 rfl ?_
    refine y_iadd cx d_X12_come_29 30 rfl ?_
    refine y_put cx d_X12_come_30 33 rfl e_M rfl zX12 tyX12_ok nmX12 2 (by decide) q_1363 rfl rfl rfl rfl (Nat.le_of_ble_eq_true rfl) h (fun _ h9 => s_M_2 h9) (fun M_5 h => ?_)
    refine y_iinc cx 2 d_X12_come_33 36 rfl rfl (by decide) (lv' := [(2, .int (zI (v2_1 + (-8)))), (0, .ref (g.2.2 0)), (1, .int (zI a1))]) rfl ?_
    refine z_goto cx d_X12_come_36 3 (by decide) ?_
    refine z_sub [1, 2, 0] rfl ?_
    exact hrec_3 _ _ h
def zrM_feed : Room := { frames := 1, cells := 0, slots := 0, locals := 22 }
set_option maxHeartbeats 4000000 in
theorem tM_feed {l : Launch} {g : ZG} {M : ZB} {a1 : Int} {a2 : Int} {a3 : Int} {a4 : Int} {a5 : Int} {r : Int × ZB} (h : fM_feed M a1 a2 a3 a4 a5 = some r) : zMi l yX12_feed cX12_feed 6 (some .int) zrM_feed g [.ref (g.2.2 0), .int (zI a1), .int (zI a2), .int (zI a3), .int (zI a4), .int (zI a5)] (wM g M) (wM g r.2) (zI r.1) := by
  unfold fM_feed at h
  refine zMi_q (own := RX12) rfl (by decide +kernel) (Nat.le_of_ble_eq_true rfl) (lv := [(0, .ref (g.2.2 0)), (1, .int (zI a1)), (2, .int (zI a2)), (3, .int (zI a3)), (4, .int (zI a4)), (5, .int (zI a5))]) rfl ⟨rfl, rfl⟩ ?_
  intro p e s m args below meth c A Q hQ cx
  refine z_aload_n cx d_X12_feed_0 1 rfl rfl 0 rfl ?_
  refine y_iconst cx d_X12_feed_1 2 rfl ?_
  refine y_put cx d_X12_feed_2 5 rfl e_M rfl zX12 tyX12_ok nmX12 0 (by decide) q_1361 rfl rfl rfl rfl (Nat.le_of_ble_eq_true rfl) h (fun _ h9 => s_M_0 h9) (fun M_1 h => ?_)
  refine z_aload_n cx d_X12_feed_5 6 rfl rfl 0 rfl ?_
  refine z_get cx d_X12_feed_6 9 rfl e_M rfl zX12 2 (by decide) q_1363 rfl rfl ?_
  refine y_bipush cx d_X12_feed_9 11 rfl (by decide) ?_
  refine y_iadd cx d_X12_feed_11 12 rfl ?_
  refine y_sipush cx d_X12_feed_12 15 rfl (by decide) ?_
  refine y_icmp_le cx d_X12_feed_15 18 rfl 20 (by decide) rfl (nm_eq (x := 640) (by decide) (by decide)) h (fun h => ?_) (fun h => ?_)
  · refine z_aload_n cx d_X12_feed_20 21 rfl rfl 0 rfl ?_
    refine z_iload_n cx d_X12_feed_21 22 rfl rfl 1 rfl ?_
    refine y_callV_v (As := [.int (zI a1)]) (rest := []) (W := fun u_2 => wM g u_2) (rm := zr0) cx (fun _ hq => tM_come hq) d_X12_feed_22 25 rfl kk_X12_come q_1347 q_1349 q_46 rfl e_M rfl ⟨rfl, rfl⟩ ⟨Nat.le_of_ble_eq_true rfl, Nat.le_of_ble_eq_true rfl⟩ rfl rfl (Nat.le_of_ble_eq_true rfl) ⟨Nat.zero_le _, Nat.zero_le _⟩ h (fun u_2 h => ?_)
    refine z_aload_n cx d_X12_feed_25 26 rfl rfl 0 rfl ?_
    refine z_iload_n cx d_X12_feed_26 27 rfl rfl 2 rfl ?_
    refine y_callV_v (As := [.int (zI a2)]) (rest := []) (W := fun u_3 => wM g u_3) (rm := zr0) cx (fun _ hq => tM_come hq) d_X12_feed_27 30 rfl kk_X12_come q_1347 q_1349 q_46 rfl e_M rfl ⟨rfl, rfl⟩ ⟨Nat.le_of_ble_eq_true rfl, Nat.le_of_ble_eq_true rfl⟩ rfl rfl (Nat.le_of_ble_eq_true rfl) ⟨Nat.zero_le _, Nat.zero_le _⟩ h (fun u_3 h => ?_)
    refine z_aload_n cx d_X12_feed_30 31 rfl rfl 0 rfl ?_
    refine z_iload_n cx d_X12_feed_31 32 rfl rfl 3 rfl ?_
    refine y_callV_v (As := [.int (zI a3)]) (rest := []) (W := fun u_4 => wM g u_4) (rm := zr0) cx (fun _ hq => tM_come hq) d_X12_feed_32 35 rfl kk_X12_come q_1347 q_1349 q_46 rfl e_M rfl ⟨rfl, rfl⟩ ⟨Nat.le_of_ble_eq_true rfl, Nat.le_of_ble_eq_true rfl⟩ rfl rfl (Nat.le_of_ble_eq_true rfl) ⟨Nat.zero_le _, Nat.zero_le _⟩ h (fun u_4 h => ?_)
    refine z_aload_n cx d_X12_feed_35 36 rfl rfl 0 rfl ?_
    refine z_iload cx d_X12_feed_36 38 rfl 4 rfl ?_
    refine y_callV_v (As := [.int (zI a4)]) (rest := []) (W := fun u_5 => wM g u_5) (rm := zr0) cx (fun _ hq => tM_come hq) d_X12_feed_38 41 rfl kk_X12_come q_1347 q_1349 q_46 rfl e_M rfl ⟨rfl, rfl⟩ ⟨Nat.le_of_ble_eq_true rfl, Nat.le_of_ble_eq_true rfl⟩ rfl rfl (Nat.le_of_ble_eq_true rfl) ⟨Nat.zero_le _, Nat.zero_le _⟩ h (fun u_5 h => ?_)
    refine z_aload_n cx d_X12_feed_41 42 rfl rfl 0 rfl ?_
    refine z_iload cx d_X12_feed_42 44 rfl 5 rfl ?_
    refine y_callV_v (As := [.int (zI a5)]) (rest := []) (W := fun u_6 => wM g u_6) (rm := zr0) cx (fun _ hq => tM_come hq) d_X12_feed_44 47 rfl kk_X12_come q_1347 q_1349 q_46 rfl e_M rfl ⟨rfl, rfl⟩ ⟨Nat.le_of_ble_eq_true rfl, Nat.le_of_ble_eq_true rfl⟩ rfl rfl (Nat.le_of_ble_eq_true rfl) ⟨Nat.zero_le _, Nat.zero_le _⟩ h (fun u_6 h => ?_)
    refine z_aload_n cx d_X12_feed_47 48 rfl rfl 0 rfl ?_
    refine z_get cx d_X12_feed_48 51 rfl e_M rfl zX12 2 (by decide) q_1363 rfl rfl ?_
    subst hQ
    obtain rfl := Option.some.inj h
    exact z_iret cx d_X12_feed_51 rfl rfl
  · refine y_iconst cx d_X12_feed_18 19 rfl ?_
    subst hQ
    obtain rfl := Option.some.inj h
    exact z_iret cx d_X12_feed_19 rfl rfl
set_option maxHeartbeats 4000000 in
theorem tM_end {l : Launch} {g : ZG} {M : ZB} {a1 : Int} {r : Int × ZB} (h : fM_end M a1 = some r) : zMi l yX12_end cX12_end 2 (some .boolean) zr0 g [.ref (g.2.2 0), .int (zI a1)] (wM g M) (wM g r.2) (zI r.1) := by
  unfold fM_end at h
  refine zMi_q (own := RX12) rfl (by decide +kernel) (Nat.le_of_ble_eq_true rfl) (lv := [(0, .ref (g.2.2 0)), (1, .int (zI a1))]) rfl ⟨rfl, rfl⟩ ?_
  intro p e s m args below meth c A Q hQ cx
  refine z_aload_n cx d_X12_end_0 1 rfl rfl 0 rfl ?_
  refine y_iconst cx d_X12_end_1 2 rfl ?_
  refine y_put cx d_X12_end_2 5 rfl e_M rfl zX12 tyX12_ok nmX12 0 (by decide) q_1361 rfl rfl rfl rfl (Nat.le_of_ble_eq_true rfl) h (fun _ h9 => s_M_0 h9) (fun M_1 h => ?_)
  refine z_iload_n cx d_X12_end_5 6 rfl rfl 1 rfl ?_
  refine kf0_f (P := V p l e zr0 s m args below meth c A s.heap g 2 Q (wM g M_1) 0 0 [] 17 []) h (fun h => ?_) (fun k_2 hk_2 h => ?_)
  · refine y_iconst cx d_X12_end_17 18 rfl ?_
    subst hQ
    obtain rfl := Option.some.inj h
    exact z_zret cx d_X12_end_18 (zb01 (by decide)) rfl rfl
  refine y_if_lt cx d_X12_end_6 9 rfl 17 (by decide) rfl h (fun h => ?_) (fun h => ?_)
  · refine z_sub [] rfl ?_
    exact hk_2  h
  · refine z_iload_n cx d_X12_end_9 10 rfl rfl 1 rfl ?_
    refine z_aload_n cx d_X12_end_10 11 rfl rfl 0 rfl ?_
    refine z_get cx d_X12_end_11 14 rfl e_M rfl zX12 2 (by decide) q_1363 rfl rfl ?_
    refine y_icmp_le cx d_X12_end_14 17 rfl 19 (by decide) rfl rfl h (fun h => ?_) (fun h => ?_)
    · refine z_aload_n cx d_X12_end_19 20 rfl rfl 0 rfl ?_
      refine z_iload_n cx d_X12_end_20 21 rfl rfl 1 rfl ?_
      refine y_put cx d_X12_end_21 24 rfl e_M rfl zX12 tyX12_ok nmX12 2 (by decide) q_1363 rfl rfl rfl rfl (Nat.le_of_ble_eq_true rfl) h (fun _ h9 => s_M_2 h9) (fun M_3 h => ?_)
      refine y_iconst cx d_X12_end_24 25 rfl ?_
      subst hQ
      obtain rfl := Option.some.inj h
      exact z_zret cx d_X12_end_25 (zb01 (by decide)) rfl rfl
    · refine z_sub [] rfl ?_
      exact hk_2  h
set_option maxHeartbeats 4000000 in
theorem tM_isLetter {l : Launch} {g : ZG} {w : va_W} {a1 : Int} {r : Int} (h : fM_isLetter a1 = some r) : zMi l yX12_isLetter cX12_isLetter 1 (some .boolean) zr0 g [.int (zI a1)] (w) (w) (zI r) := by
  unfold fM_isLetter at h
  refine zMi_q (own := RX12) rfl (by decide +kernel) (Nat.le_of_ble_eq_true rfl) (lv := [(0, .int (zI a1))]) rfl ⟨rfl, rfl⟩ ?_
  intro p e s m args below meth c A Q hQ cx
  refine z_iload_n cx d_X12_isLetter_0 1 rfl rfl 0 rfl ?_
  refine y_bipush cx d_X12_isLetter_1 3 rfl (by decide) ?_
  refine kf1_f (P := fun (w0_1 : Int) => V p l e zr0 s m args below meth c A s.heap g 1 Q (w) 0 0 [] 17 [.int (zI w0_1)]) h (fun w0_1 h => ?_) (fun k_2 hk_2 h => ?_)
  · obtain ⟨hz, h⟩ := zo_i h
    subst hQ
    obtain rfl := Option.some.inj h
    exact z_zret cx d_X12_isLetter_17 (zb01 hz) rfl rfl
  refine kf0_f (P := V p l e zr0 s m args below meth c A s.heap g 1 Q (w) 0 0 [] 16 []) h (fun h => ?_) (fun k_3 hk_3 h => ?_)
  · refine y_iconst cx d_X12_isLetter_16 17 rfl ?_
    exact hk_2 _ h
  refine y_icmp_lt cx d_X12_isLetter_3 6 rfl 16 (by decide) rfl (nm_eq (x := 97) (by decide) (by decide)) h (fun h => ?_) (fun h => ?_)
  · refine z_sub [] rfl ?_
    exact hk_3  h
  · refine z_iload_n cx d_X12_isLetter_6 7 rfl rfl 0 rfl ?_
    refine y_bipush cx d_X12_isLetter_7 9 rfl (by decide) ?_
    refine y_icmp_gt cx d_X12_isLetter_9 12 rfl 16 (by decide) rfl (nm_eq (x := 122) (by decide) (by decide)) h (fun h => ?_) (fun h => ?_)
    · refine z_sub [] rfl ?_
      exact hk_3  h
    · refine y_iconst cx d_X12_isLetter_12 13 rfl ?_
      refine z_goto cx d_X12_isLetter_13 17 (by decide) ?_
      refine z_sub [] rfl ?_
      exact hk_2 _ h
set_option maxHeartbeats 4000000 in
theorem tM_isDigit {l : Launch} {g : ZG} {w : va_W} {a1 : Int} {r : Int} (h : fM_isDigit a1 = some r) : zMi l yX12_isDigit cX12_isDigit 1 (some .boolean) zr0 g [.int (zI a1)] (w) (w) (zI r) := by
  unfold fM_isDigit at h
  refine zMi_q (own := RX12) rfl (by decide +kernel) (Nat.le_of_ble_eq_true rfl) (lv := [(0, .int (zI a1))]) rfl ⟨rfl, rfl⟩ ?_
  intro p e s m args below meth c A Q hQ cx
  refine z_iload_n cx d_X12_isDigit_0 1 rfl rfl 0 rfl ?_
  refine y_bipush cx d_X12_isDigit_1 3 rfl (by decide) ?_
  refine kf1_f (P := fun (w0_1 : Int) => V p l e zr0 s m args below meth c A s.heap g 1 Q (w) 0 0 [] 17 [.int (zI w0_1)]) h (fun w0_1 h => ?_) (fun k_2 hk_2 h => ?_)
  · obtain ⟨hz, h⟩ := zo_i h
    subst hQ
    obtain rfl := Option.some.inj h
    exact z_zret cx d_X12_isDigit_17 (zb01 hz) rfl rfl
  refine kf0_f (P := V p l e zr0 s m args below meth c A s.heap g 1 Q (w) 0 0 [] 16 []) h (fun h => ?_) (fun k_3 hk_3 h => ?_)
  · refine y_iconst cx d_X12_isDigit_16 17 rfl ?_
    exact hk_2 _ h
  refine y_icmp_lt cx d_X12_isDigit_3 6 rfl 16 (by decide) rfl (nm_eq (x := 48) (by decide) (by decide)) h (fun h => ?_) (fun h => ?_)
  · refine z_sub [] rfl ?_
    exact hk_3  h
  · refine z_iload_n cx d_X12_isDigit_6 7 rfl rfl 0 rfl ?_
    refine y_bipush cx d_X12_isDigit_7 9 rfl (by decide) ?_
    refine y_icmp_gt cx d_X12_isDigit_9 12 rfl 16 (by decide) rfl (nm_eq (x := 57) (by decide) (by decide)) h (fun h => ?_) (fun h => ?_)
    · refine z_sub [] rfl ?_
      exact hk_3  h
    · refine y_iconst cx d_X12_isDigit_12 13 rfl ?_
      refine z_goto cx d_X12_isDigit_13 17 (by decide) ?_
      refine z_sub [] rfl ?_
      exact hk_2 _ h
set_option maxHeartbeats 4000000 in
theorem tM_tapeAt {l : Launch} {g : ZG} {M : ZB} {a1 : Int} {r : Int} (h : fM_tapeAt M a1 = some r) : zMi l yX12_tapeAt cX12_tapeAt 2 (some .int) zr0 g [.ref (g.2.2 0), .int (zI a1)] (wM g M) (wM g M) (zI r) := by
  unfold fM_tapeAt at h
  refine zMi_q (own := RX12) rfl (by decide +kernel) (Nat.le_of_ble_eq_true rfl) (lv := [(0, .ref (g.2.2 0)), (1, .int (zI a1))]) rfl ⟨rfl, rfl⟩ ?_
  intro p e s m args below meth c A Q hQ cx
  refine z_iload_n cx d_X12_tapeAt_0 1 rfl rfl 1 rfl ?_
  refine z_aload_n cx d_X12_tapeAt_1 2 rfl rfl 0 rfl ?_
  refine z_get cx d_X12_tapeAt_2 5 rfl e_M rfl zX12 3 (by decide) q_1364 rfl rfl ?_
  refine kf1_f (P := fun (w0_1 : Int) => V p l e zr0 s m args below meth c A s.heap g 2 Q (wM g M) 0 0 [] 18 [.int (zI w0_1)]) h (fun w0_1 h => ?_) (fun k_2 hk_2 h => ?_)
  · subst hQ
    obtain rfl := Option.some.inj h
    exact z_iret cx d_X12_tapeAt_18 rfl rfl
  refine y_icmp_ge cx d_X12_tapeAt_5 8 rfl 17 (by decide) rfl rfl h (fun h => ?_) (fun h => ?_)
  · refine y_iconst cx d_X12_tapeAt_17 18 rfl ?_
    refine z_sub [] rfl ?_
    exact hk_2 _ h
  · refine z_aload_n cx d_X12_tapeAt_8 9 rfl rfl 0 rfl ?_
    refine z_get cx d_X12_tapeAt_9 12 rfl e_M rfl zX12 1 (by decide) q_1362 rfl rfl ?_
    refine z_iload_n cx d_X12_tapeAt_12 13 rfl rfl 1 rfl ?_
    refine y_ialdx cx d_X12_tapeAt_13 14 rfl e_M_tape (by decide) h (fun x_3 h => ?_)
    refine z_goto cx d_X12_tapeAt_14 18 (by decide) ?_
    refine z_sub [] rfl ?_
    exact hk_2 _ h
def zrM_go : Room := { frames := 1, cells := 0, slots := 0, locals := 21 }
set_option maxHeartbeats 4000000 in
theorem tM_go {l : Launch} {g : ZG} {M : ZB}  {r : ZB} (h : fM_go M = some r) : zMv l yX12_go cX12_go 5 none zrM_go g [.ref (g.2.2 0)] (wM g M) (wM g r) := by
  unfold fM_go at h
  refine zMv_q (own := RX12) rfl (by decide +kernel) (Nat.le_of_ble_eq_true rfl) (lv := [(0, .ref (g.2.2 0))]) rfl ⟨rfl, rfl⟩ ?_
  intro p e s m args below meth c A Q hQ cx
  refine lop1_f (P := fun (M_1 : ZB) => V p l e zrM_go s m args below meth c A s.heap g 5 Q (wM g M_1) 0 0 [(0, .ref (g.2.2 0))] 0 []) (fun rec_2 hrec_2 M_1 h => ?_) _ _ h
  refine z_aload_n cx d_X12_go_0 1 rfl rfl 0 rfl ?_
  refine z_get cx d_X12_go_1 4 rfl e_M rfl zX12 4 (by decide) q_1365 rfl rfl ?_
  refine z_aload_n cx d_X12_go_4 5 rfl rfl 0 rfl ?_
  refine z_get cx d_X12_go_5 8 rfl e_M rfl zX12 3 (by decide) q_1364 rfl rfl ?_
  refine kf0_f (P := V p l e zrM_go s m args below meth c A s.heap g 5 Q (wM g M_1) 0 0 [(0, .ref (g.2.2 0))] 52 []) h (fun h => ?_) (fun k_3 hk_3 h => ?_)
  · refine z_aload_n cx d_X12_go_52 53 rfl rfl 0 rfl ?_
    refine z_aload_n cx d_X12_go_53 54 rfl rfl 0 rfl ?_
    refine z_get cx d_X12_go_54 57 rfl e_M rfl zX12 4 (by decide) q_1365 rfl rfl ?_
    refine y_put cx d_X12_go_57 60 rfl e_M rfl zX12 tyX12_ok nmX12 5 (by decide) q_1366 rfl rfl rfl rfl (Nat.le_of_ble_eq_true rfl) h (fun _ h9 => s_M_5 h9) (fun M_4 h => ?_)
    refine z_aload_n cx d_X12_go_60 61 rfl rfl 0 rfl ?_
    refine z_get cx d_X12_go_61 64 rfl e_M rfl zX12 3 (by decide) q_1364 rfl rfl ?_
    refine y_sipush cx d_X12_go_64 67 rfl (by decide) ?_
    refine kf0_f (P := V p l e zrM_go s m args below meth c A s.heap g 5 Q (wM g M_4) 0 0 [(0, .ref (g.2.2 0))] 93 []) h (fun h => ?_) (fun k_5 hk_5 h => ?_)
    · refine z_aload_n cx d_X12_go_93 94 rfl rfl 0 rfl ?_
      refine z_get cx d_X12_go_94 97 rfl e_M rfl zX12 4 (by decide) q_1365 rfl rfl ?_
      refine z_aload_n cx d_X12_go_97 98 rfl rfl 0 rfl ?_
      refine z_get cx d_X12_go_98 101 rfl e_M rfl zX12 3 (by decide) q_1364 rfl rfl ?_
      refine y_icmp_lt cx d_X12_go_101 104 rfl 110 (by decide) rfl rfl h (fun h => ?_) (fun h => ?_)
      · refine z_aload_n cx d_X12_go_110 111 rfl rfl 0 rfl ?_
        refine z_get cx d_X12_go_111 114 rfl e_M rfl zX12 1 (by decide) q_1362 rfl rfl ?_
        refine z_aload_n cx d_X12_go_114 115 rfl rfl 0 rfl ?_
        refine z_get cx d_X12_go_115 118 rfl e_M rfl zX12 4 (by decide) q_1365 rfl rfl ?_
        refine y_ialdx cx d_X12_go_118 119 rfl e_M_tape (by decide) h (fun x_6 h => ?_)
        refine y_istore_n cx d_X12_go_119 120 rfl rfl (by decide) (lv' := [(1, .int (zI x_6)), (0, .ref (g.2.2 0))]) rfl ?_
        refine z_iload_n cx d_X12_go_120 121 rfl rfl 0 rfl ?_
        refine y_callS_i (As := [.int (zI x_6)]) (rest := []) (W := fun u_7 => wM g M_4) (rf := fun u_7 => zI u_7) (rm := zr0) cx (fun _ hq => tM_isLetter hq) d_X12_go_121 124 rfl kk_X12_isLetter q_1497 q_1498 ⟨rfl, rfl⟩ ⟨Nat.le_of_ble_eq_true rfl, Nat.le_of_ble_eq_true rfl⟩ rfl rfl (Nat.le_of_ble_eq_true rfl) ⟨Nat.zero_le _, Nat.zero_le _⟩ h (fun u_7 h => ?_)
        refine kf0_f (P := V p l e zrM_go s m args below meth c A s.heap g 5 Q (wM g M_4) 0 0 [(0, .ref (g.2.2 0)), (1, .int (zI x_6))] 160 []) h (fun h => ?_) (fun k_8 hk_8 h => ?_)
        · refine z_iload_n cx d_X12_go_160 161 rfl rfl 1 rfl ?_
          refine y_callS_i (As := [.int (zI x_6)]) (rest := []) (W := fun u_9 => wM g M_4) (rf := fun u_9 => zI u_9) (rm := zr0) cx (fun _ hq => tM_isLetter hq) d_X12_go_161 164 rfl kk_X12_isLetter q_1497 q_1498 ⟨rfl, rfl⟩ ⟨Nat.le_of_ble_eq_true rfl, Nat.le_of_ble_eq_true rfl⟩ rfl rfl (Nat.le_of_ble_eq_true rfl) ⟨Nat.zero_le _, Nat.zero_le _⟩ h (fun u_9 h => ?_)
          refine y_istore_n cx d_X12_go_164 165 rfl rfl (by decide) (lv' := [(2, .int (zI u_9)), (0, .ref (g.2.2 0)), (1, .int (zI x_6))]) rfl ?_
          refine y_iconst cx d_X12_go_165 166 rfl ?_
          refine y_istore_n cx d_X12_go_166 167 rfl rfl (by decide) (lv' := [(3, .int (zI 1)), (2, .int (zI u_9)), (0, .ref (g.2.2 0)), (1, .int (zI x_6))]) rfl ?_
          refine z_aload_n cx d_X12_go_167 168 rfl rfl 2 rfl ?_
          refine y_lconst cx 0 d_X12_go_168 169 rfl (by decide) ?_
          refine y_put cx d_X12_go_169 172 rfl e_M rfl zX12 tyX12_ok nmX12 10 (by decide) q_1371 rfl rfl rfl rfl (Nat.le_of_ble_eq_true rfl) h (fun _ h9 => s_M_10 h9) (fun M_10 h => ?_)
          refine z_aload_n cx d_X12_go_172 173 rfl rfl 2 rfl ?_
          refine y_iconst cx d_X12_go_173 174 rfl ?_
          refine y_put cx d_X12_go_174 177 rfl e_M rfl zX12 tyX12_ok nmX12 7 (by decide) q_1368 rfl rfl rfl rfl (Nat.le_of_ble_eq_true rfl) h (fun _ h9 => s_M_7 h9) (fun M_11 h => ?_)
          refine z_sub [2, 1, 0] rfl ?_
          refine lop2_f (P := fun (v3_12 : Int) (M_13 : ZB) => V p l e zrM_go s m args below meth c A s.heap g 5 Q (wM g M_13) 0 0 [(0, .ref (g.2.2 0)), (2, .int (zI u_9)), (3, .int (zI v3_12))] 177 []) (fun rec_14 hrec_14 v3_12 M_13 h => ?_) _ _ _ h
          refine z_aload_n cx d_X12_go_177 178 rfl rfl 0 rfl ?_
          refine z_aload_n cx d_X12_go_178 179 rfl rfl 0 rfl ?_
          refine z_get cx d_X12_go_179 182 rfl e_M rfl zX12 4 (by decide) q_1365 rfl rfl ?_
          refine y_callV_i (As := [.int (zI (M_13.1 4))]) (rest := []) (W := fun u_15 => wM g M_13) (rf := fun u_15 => zI u_15) (rm := zr0) cx (fun _ hq => tM_tapeAt hq) d_X12_go_182 185 rfl kk_X12_tapeAt q_1503 q_1505 q_48 rfl e_M rfl ⟨rfl, rfl⟩ ⟨Nat.le_of_ble_eq_true rfl, Nat.le_of_ble_eq_true rfl⟩ rfl rfl (Nat.le_of_ble_eq_true rfl) ⟨Nat.zero_le _, Nat.zero_le _⟩ h (fun u_15 h => ?_)
          refine y_callS_i (As := [.int (zI u_15)]) (rest := []) (W := fun u_16 => wM g M_13) (rf := fun u_16 => zI u_16) (rm := zr0) cx (fun _ hq => tM_isLetter hq) d_X12_go_185 188 rfl kk_X12_isLetter q_1497 q_1498 ⟨rfl, rfl⟩ ⟨Nat.le_of_ble_eq_true rfl, Nat.le_of_ble_eq_true rfl⟩ rfl rfl (Nat.le_of_ble_eq_true rfl) ⟨Nat.zero_le _, Nat.zero_le _⟩ h (fun u_16 h => ?_)
          refine kf0_f (P := V p l e zrM_go s m args below meth c A s.heap g 5 Q (wM g M_13) 0 0 [(0, .ref (g.2.2 0)), (2, .int (zI u_9)), (3, .int (zI v3_12))] 205 []) h (fun h => ?_) (fun k_17 hk_17 h => ?_)
          · refine z_aload_n cx d_X12_go_205 206 rfl rfl 0 rfl ?_
            refine z_get cx d_X12_go_206 209 rfl e_M rfl zX12 1 (by decide) q_1362 rfl rfl ?_
            refine z_aload_n cx d_X12_go_209 210 rfl rfl 0 rfl ?_
            refine z_get cx d_X12_go_210 213 rfl e_M rfl zX12 4 (by decide) q_1365 rfl rfl ?_
            refine y_ialdx cx d_X12_go_213 214 rfl e_M_tape (by decide) h (fun x_18 h => ?_)
            refine y_istore cx d_X12_go_214 216 rfl (by decide) (lv' := [(4, .int (zI x_18)), (0, .ref (g.2.2 0)), (2, .int (zI u_9)), (3, .int (zI v3_12))]) rfl ?_
            refine z_iload_n cx d_X12_go_216 217 rfl rfl 3 rfl ?_
            refine kf1_f (P := fun (w0_19 : Int) => V p l e zrM_go s m args below meth c A s.heap g 5 Q (wM g M_13) 0 0 [(0, .ref (g.2.2 0)), (2, .int (zI u_9)), (4, .int (zI x_18))] 234 [.int (zI w0_19)]) h (fun w0_19 h => ?_) (fun k_20 hk_20 h => ?_)
            · refine y_istore_n cx d_X12_go_234 235 rfl rfl (by decide) (lv' := [(3, .int (zI w0_19)), (0, .ref (g.2.2 0)), (2, .int (zI u_9)), (4, .int (zI x_18))]) rfl ?_
              refine z_aload_n cx d_X12_go_235 236 rfl rfl 1 rfl ?_
              refine z_get cx d_X12_go_236 239 rfl e_M rfl zX12 4 (by decide) q_1365 rfl rfl ?_
              refine z_aload_n cx d_X12_go_239 240 rfl rfl 1 rfl ?_
              refine z_get cx d_X12_go_240 243 rfl e_M rfl zX12 5 (by decide) q_1366 rfl rfl ?_
              refine y_isub cx d_X12_go_243 244 rfl ?_
              refine y_bipush cx d_X12_go_244 246 rfl (by decide) ?_
              refine kf1_f (P := fun (M_21 : ZB) => V p l e zrM_go s m args below meth c A s.heap g 5 Q (wM g M_21) 0 0 [(0, .ref (g.2.2 0)), (2, .int (zI u_9)), (3, .int (zI w0_19)), (4, .int (zI x_18))] 269 []) h (fun M_21 h => ?_) (fun k_22 hk_22 h => ?_)
              · refine z_aload_n cx d_X12_go_269 270 rfl rfl 0 rfl ?_
                refine z_get cx d_X12_go_270 273 rfl e_M rfl zX12 4 (by decide) q_1365 rfl rfl ?_
                refine z_aload_n cx d_X12_go_273 274 rfl rfl 0 rfl ?_
                refine z_get cx d_X12_go_274 277 rfl e_M rfl zX12 5 (by decide) q_1366 rfl rfl ?_
                refine y_isub cx d_X12_go_277 278 rfl ?_
                refine y_iconst cx d_X12_go_278 279 rfl ?_
                refine kf1_f (P := fun (M_23 : ZB) => V p l e zrM_go s m args below meth c A s.heap g 5 Q (wM g M_23) 0 0 [(0, .ref (g.2.2 0)), (2, .int (zI u_9)), (3, .int (zI w0_19))] 299 []) h (fun M_23 h => ?_) (fun k_24 hk_24 h => ?_)
                · refine z_aload_n cx d_X12_go_299 300 rfl rfl 0 rfl ?_
                  refine z_dup cx d_X12_go_300 301 rfl rfl ?_
                  refine z_get cx d_X12_go_301 304 rfl e_M rfl zX12 4 (by decide) q_1365 rfl rfl ?_
                  refine y_iconst cx d_X12_go_304 305 rfl ?_
                  refine y_iadd cx d_X12_go_305 306 rfl ?_
                  refine y_put cx d_X12_go_306 309 rfl e_M rfl zX12 tyX12_ok nmX12 4 (by decide) q_1365 rfl rfl rfl rfl (Nat.le_of_ble_eq_true rfl) h (fun _ h9 => s_M_4 h9) (fun M_25 h => ?_)
                  refine z_goto cx d_X12_go_309 177 (by decide) ?_
                  exact hrec_14 _ _ h
                refine y_icmp_ge cx d_X12_go_279 282 rfl 299 (by decide) rfl (nm_eq (x := 2) (by decide) (by decide)) h (fun h => ?_) (fun h => ?_)
                · refine z_sub [0, 1, 2] rfl ?_
                  exact hk_24 _ h
                · refine z_aload_n cx d_X12_go_282 283 rfl rfl 0 rfl ?_
                  refine y_bipush cx d_X12_go_283 285 rfl (by decide) ?_
                  refine z_aload_n cx d_X12_go_285 286 rfl rfl 0 rfl ?_
                  refine z_get cx d_X12_go_286 289 rfl e_M rfl zX12 7 (by decide) q_1368 rfl rfl ?_
                  refine y_imul cx d_X12_go_289 290 rfl ?_
                  refine z_iload cx d_X12_go_290 292 rfl 3 rfl ?_
                  refine y_iadd cx d_X12_go_292 293 rfl ?_
                  refine y_bipush cx d_X12_go_293 295 rfl (by decide) ?_
                  refine y_isub cx d_X12_go_295 296 rfl ?_
                  refine y_put cx d_X12_go_296 299 rfl e_M rfl zX12 tyX12_ok nmX12 7 (by decide) q_1368 rfl rfl rfl rfl (Nat.le_of_ble_eq_true rfl) h (fun _ h9 => s_M_7 h9) (fun M_26 h => ?_)
                  refine z_sub [0, 1, 2] rfl ?_
                  exact hk_24 _ h
              refine y_icmp_ge cx d_X12_go_246 249 rfl 269 (by decide) rfl (nm_eq (x := 7) (by decide) (by decide)) h (fun h => ?_) (fun h => ?_)
              · refine z_sub [1, 2, 0, 3] rfl ?_
                exact hk_22 _ h
              · refine z_aload_n cx d_X12_go_249 250 rfl rfl 1 rfl ?_
                refine y_ldc2_w cx 27 d_X12_go_250 253 rfl q_1507 ?_
                refine z_aload_n cx d_X12_go_253 254 rfl rfl 1 rfl ?_
                refine z_get cx d_X12_go_254 257 rfl e_M rfl zX12 10 (by decide) q_1371 rfl rfl ?_
                refine y_lmul cx d_X12_go_257 258 rfl ?_
                refine z_iload cx d_X12_go_258 260 rfl 3 rfl ?_
                refine y_i2l2 cx d_X12_go_260 261 rfl rfl ?_
                refine y_ladd cx d_X12_go_261 262 rfl ?_
                refine y_ldc2_w cx 96 d_X12_go_262 265 rfl q_1508 ?_
                refine y_lsub cx d_X12_go_265 266 rfl ?_
                refine y_put cx d_X12_go_266 269 rfl e_M rfl zX12 tyX12_ok nmX12 10 (by decide) q_1371 rfl rfl rfl rfl (Nat.le_of_ble_eq_true rfl) h (fun _ h9 => s_M_10 h9) (fun M_27 h => ?_)
                refine z_sub [1, 2, 0, 3] rfl ?_
                exact hk_22 _ h
            refine kf0_f (P := V p l e zrM_go s m args below meth c A s.heap g 5 Q (wM g M_13) 0 0 [(0, .ref (g.2.2 0)), (2, .int (zI u_9)), (4, .int (zI x_18))] 233 []) h (fun h => ?_) (fun k_28 hk_28 h => ?_)
            · refine y_iconst cx d_X12_go_233 234 rfl ?_
              exact hk_20 _ h
            refine y_if_eq cx d_X12_go_217 220 rfl 233 (by decide) rfl h (fun h => ?_) (fun h => ?_)
            · refine z_sub [1, 2, 0] rfl ?_
              exact hk_28  h
            · refine z_iload cx d_X12_go_220 222 rfl 0 rfl ?_
              refine y_callS_i (As := [.int (zI x_18)]) (rest := []) (W := fun u_29 => wM g M_13) (rf := fun u_29 => zI u_29) (rm := zr0) cx (fun _ hq => tM_isLetter hq) d_X12_go_222 225 rfl kk_X12_isLetter q_1497 q_1498 ⟨rfl, rfl⟩ ⟨Nat.le_of_ble_eq_true rfl, Nat.le_of_ble_eq_true rfl⟩ rfl rfl (Nat.le_of_ble_eq_true rfl) ⟨Nat.zero_le _, Nat.zero_le _⟩ h (fun u_29 h => ?_)
              refine z_iload_n cx d_X12_go_225 226 rfl rfl 2 rfl ?_
              refine y_icmp_ne cx d_X12_go_226 229 rfl 233 (by decide) rfl rfl h (fun h => ?_) (fun h => ?_)
              · refine z_sub [1, 2, 0] rfl ?_
                exact hk_28  h
              · refine y_iconst cx d_X12_go_229 230 rfl ?_
                refine z_goto cx d_X12_go_230 234 (by decide) ?_
                refine z_sub [1, 2, 0] rfl ?_
                exact hk_20 _ h
          refine y_if_ne cx d_X12_go_188 191 rfl 205 (by decide) rfl h (fun h => ?_) (fun h => ?_)
          · exact hk_17  h
          · refine z_aload_n cx d_X12_go_191 192 rfl rfl 0 rfl ?_
            refine z_aload_n cx d_X12_go_192 193 rfl rfl 0 rfl ?_
            refine z_get cx d_X12_go_193 196 rfl e_M rfl zX12 4 (by decide) q_1365 rfl rfl ?_
            refine y_callV_i (As := [.int (zI (M_13.1 4))]) (rest := []) (W := fun u_30 => wM g M_13) (rf := fun u_30 => zI u_30) (rm := zr0) cx (fun _ hq => tM_tapeAt hq) d_X12_go_196 199 rfl kk_X12_tapeAt q_1503 q_1505 q_48 rfl e_M rfl ⟨rfl, rfl⟩ ⟨Nat.le_of_ble_eq_true rfl, Nat.le_of_ble_eq_true rfl⟩ rfl rfl (Nat.le_of_ble_eq_true rfl) ⟨Nat.zero_le _, Nat.zero_le _⟩ h (fun u_30 h => ?_)
            refine y_callS_i (As := [.int (zI u_30)]) (rest := []) (W := fun u_31 => wM g M_13) (rf := fun u_31 => zI u_31) (rm := zr0) cx (fun _ hq => tM_isDigit hq) d_X12_go_199 202 rfl kk_X12_isDigit q_1500 q_1501 ⟨rfl, rfl⟩ ⟨Nat.le_of_ble_eq_true rfl, Nat.le_of_ble_eq_true rfl⟩ rfl rfl (Nat.le_of_ble_eq_true rfl) ⟨Nat.zero_le _, Nat.zero_le _⟩ h (fun u_31 h => ?_)
            refine y_if_eq cx d_X12_go_202 205 rfl 312 (by decide) rfl h (fun h => ?_) (fun h => ?_)
            · refine z_aload_n cx d_X12_go_312 313 rfl rfl 0 rfl ?_
              refine z_iload_n cx d_X12_go_313 314 rfl rfl 2 rfl ?_
              refine kf1_f (P := fun (w1_32 : Int) => V p l e zrM_go s m args below meth c A s.heap g 5 Q (wM g M_13) 0 0 [] 352 [.int (zI w1_32), .ref (g.2.2 0)]) h (fun w1_32 h => ?_) (fun k_33 hk_33 h => ?_)
              · refine y_put cx d_X12_go_352 355 rfl e_M rfl zX12 tyX12_ok nmX12 6 (by decide) q_1367 rfl rfl rfl rfl (Nat.le_of_ble_eq_true rfl) h (fun _ h9 => s_M_6 h9) (fun M_34 h => ?_)
                subst hQ
                obtain rfl := Option.some.inj h
                exact z_vret cx d_X12_go_355 rfl
              refine kf0_f (P := V p l e zrM_go s m args below meth c A s.heap g 5 Q (wM g M_13) 0 0 [] 339 [.ref (g.2.2 0)]) h (fun h => ?_) (fun k_35 hk_35 h => ?_)
              · refine y_iconst cx d_X12_go_339 340 rfl ?_
                refine z_goto cx d_X12_go_340 352 (by decide) ?_
                exact hk_33 _ h
              refine y_if_eq cx d_X12_go_314 317 rfl 339 (by decide) rfl h (fun h => ?_) (fun h => ?_)
              · refine z_sub [] rfl ?_
                exact hk_35  h
              · refine z_aload_n cx d_X12_go_317 318 rfl rfl 0 rfl ?_
                refine z_get cx d_X12_go_318 321 rfl e_M rfl zX12 4 (by decide) q_1365 rfl rfl ?_
                refine z_aload_n cx d_X12_go_321 322 rfl rfl 0 rfl ?_
                refine z_get cx d_X12_go_322 325 rfl e_M rfl zX12 5 (by decide) q_1366 rfl rfl ?_
                refine y_isub cx d_X12_go_325 326 rfl ?_
                refine z_iload_n cx d_X12_go_326 327 rfl rfl 1 rfl ?_
                refine kf1_f (P := fun (w2_36 : Int) => V p l e zrM_go s m args below meth c A s.heap g 5 Q (wM g M_13) 0 0 [(2, .int (zI u_9))] 336 [.int (zI w2_36), .int (zI ((M_13.1 4) - (M_13.1 5))), .ref (g.2.2 0)]) h (fun w2_36 h => ?_) (fun k_37 hk_37 h => ?_)
                · refine y_icmp_le cx d_X12_go_336 339 rfl 343 (by decide) rfl rfl h (fun h => ?_) (fun h => ?_)
                  · refine z_iload_n cx d_X12_go_343 344 rfl rfl 0 rfl ?_
                    refine y_if_eq cx d_X12_go_344 347 rfl 351 (by decide) rfl h (fun h => ?_) (fun h => ?_)
                    · refine y_iconst cx d_X12_go_351 352 rfl ?_
                      refine z_sub [] rfl ?_
                      exact hk_33 _ h
                    · refine y_iconst cx d_X12_go_347 348 rfl ?_
                      refine z_goto cx d_X12_go_348 352 (by decide) ?_
                      refine z_sub [] rfl ?_
                      exact hk_33 _ h
                  · refine z_sub [] rfl ?_
                    exact hk_35  h
                refine y_if_eq cx d_X12_go_327 330 rfl 335 (by decide) rfl h (fun h => ?_) (fun h => ?_)
                · refine y_iconst cx d_X12_go_335 336 rfl ?_
                  refine z_sub [1] rfl ?_
                  exact hk_37 _ h
                · refine y_bipush cx d_X12_go_330 332 rfl (by decide) ?_
                  refine z_goto cx d_X12_go_332 336 (by decide) ?_
                  refine z_sub [1] rfl ?_
                  exact hk_37 _ h
            · exact hk_17  h
        refine y_if_ne cx d_X12_go_124 127 rfl 160 (by decide) rfl h (fun h => ?_) (fun h => ?_)
        · refine z_sub [1, 0] rfl ?_
          exact hk_8  h
        · refine z_iload_n cx d_X12_go_127 128 rfl rfl 0 rfl ?_
          refine y_callS_i (As := [.int (zI x_6)]) (rest := []) (W := fun u_38 => wM g M_4) (rf := fun u_38 => zI u_38) (rm := zr0) cx (fun _ hq => tM_isDigit hq) d_X12_go_128 131 rfl kk_X12_isDigit q_1500 q_1501 ⟨rfl, rfl⟩ ⟨Nat.le_of_ble_eq_true rfl, Nat.le_of_ble_eq_true rfl⟩ rfl rfl (Nat.le_of_ble_eq_true rfl) ⟨Nat.zero_le _, Nat.zero_le _⟩ h (fun u_38 h => ?_)
          refine y_if_ne cx d_X12_go_131 134 rfl 160 (by decide) rfl h (fun h => ?_) (fun h => ?_)
          · refine z_sub [1, 0] rfl ?_
            exact hk_8  h
          · refine z_aload_n cx d_X12_go_134 135 rfl rfl 1 rfl ?_
            refine z_iload_n cx d_X12_go_135 136 rfl rfl 0 rfl ?_
            refine y_bipush cx d_X12_go_136 138 rfl (by decide) ?_
            refine kf1_f (P := fun (w1_39 : Int) => V p l e zrM_go s m args below meth c A s.heap g 5 Q (wM g M_4) 0 0 [(0, .ref (g.2.2 0))] 146 [.int (zI w1_39), .ref (g.2.2 0)]) h (fun w1_39 h => ?_) (fun k_40 hk_40 h => ?_)
            · refine y_put cx d_X12_go_146 149 rfl e_M rfl zX12 tyX12_ok nmX12 6 (by decide) q_1367 rfl rfl rfl rfl (Nat.le_of_ble_eq_true rfl) h (fun _ h9 => s_M_6 h9) (fun M_41 h => ?_)
              refine z_aload_n cx d_X12_go_149 150 rfl rfl 0 rfl ?_
              refine z_dup cx d_X12_go_150 151 rfl rfl ?_
              refine z_get cx d_X12_go_151 154 rfl e_M rfl zX12 4 (by decide) q_1365 rfl rfl ?_
              refine y_iconst cx d_X12_go_154 155 rfl ?_
              refine y_iadd cx d_X12_go_155 156 rfl ?_
              refine y_put cx d_X12_go_156 159 rfl e_M rfl zX12 tyX12_ok nmX12 4 (by decide) q_1365 rfl rfl rfl rfl (Nat.le_of_ble_eq_true rfl) h (fun _ h9 => s_M_4 h9) (fun M_42 h => ?_)
              subst hQ
              obtain rfl := Option.some.inj h
              exact z_vret cx d_X12_go_159 rfl
            refine y_icmp_ne cx d_X12_go_138 141 rfl 145 (by decide) rfl (nm_eq (x := 59) (by decide) (by decide)) h (fun h => ?_) (fun h => ?_)
            · refine y_iconst cx d_X12_go_145 146 rfl ?_
              refine z_sub [1] rfl ?_
              exact hk_40 _ h
            · refine y_iconst cx d_X12_go_141 142 rfl ?_
              refine z_goto cx d_X12_go_142 146 (by decide) ?_
              refine z_sub [1] rfl ?_
              exact hk_40 _ h
      · refine z_aload_n cx d_X12_go_104 105 rfl rfl 0 rfl ?_
        refine y_iconst cx d_X12_go_105 106 rfl ?_
        refine y_put cx d_X12_go_106 109 rfl e_M rfl zX12 tyX12_ok nmX12 6 (by decide) q_1367 rfl rfl rfl rfl (Nat.le_of_ble_eq_true rfl) h (fun _ h9 => s_M_6 h9) (fun M_43 h => ?_)
        subst hQ
        obtain rfl := Option.some.inj h
        exact z_vret cx d_X12_go_109 rfl
    refine y_icmp_le cx d_X12_go_67 70 rfl 93 (by decide) rfl (nm_eq (x := 600) (by decide) (by decide)) h (fun h => ?_) (fun h => ?_)
    · exact hk_5  h
    · refine z_aload_n cx d_X12_go_70 71 rfl rfl 0 rfl ?_
      refine z_get cx d_X12_go_71 74 rfl e_M rfl zX12 5 (by decide) q_1366 rfl rfl ?_
      refine y_sipush cx d_X12_go_74 77 rfl (by decide) ?_
      refine y_icmp_lt cx d_X12_go_77 80 rfl 93 (by decide) rfl (nm_eq (x := 600) (by decide) (by decide)) h (fun h => ?_) (fun h => ?_)
      · exact hk_5  h
      · refine z_aload_n cx d_X12_go_80 81 rfl rfl 0 rfl ?_
        refine y_sipush cx d_X12_go_81 84 rfl (by decide) ?_
        refine y_put cx d_X12_go_84 87 rfl e_M rfl zX12 tyX12_ok nmX12 5 (by decide) q_1366 rfl rfl rfl rfl (Nat.le_of_ble_eq_true rfl) h (fun _ h9 => s_M_5 h9) (fun M_44 h => ?_)
        refine z_aload_n cx d_X12_go_87 88 rfl rfl 0 rfl ?_
        refine y_iconst cx d_X12_go_88 89 rfl ?_
        refine y_put cx d_X12_go_89 92 rfl e_M rfl zX12 tyX12_ok nmX12 6 (by decide) q_1367 rfl rfl rfl rfl (Nat.le_of_ble_eq_true rfl) h (fun _ h9 => s_M_6 h9) (fun M_45 h => ?_)
        subst hQ
        obtain rfl := Option.some.inj h
        exact z_vret cx d_X12_go_92 rfl
  refine y_icmp_ge cx d_X12_go_8 11 rfl 52 (by decide) rfl rfl h (fun h => ?_) (fun h => ?_)
  · exact hk_3  h
  · refine z_aload_n cx d_X12_go_11 12 rfl rfl 0 rfl ?_
    refine z_get cx d_X12_go_12 15 rfl e_M rfl zX12 1 (by decide) q_1362 rfl rfl ?_
    refine z_aload_n cx d_X12_go_15 16 rfl rfl 0 rfl ?_
    refine z_get cx d_X12_go_16 19 rfl e_M rfl zX12 4 (by decide) q_1365 rfl rfl ?_
    refine y_ialdx cx d_X12_go_19 20 rfl e_M_tape (by decide) h (fun x_46 h => ?_)
    refine y_bipush cx d_X12_go_20 22 rfl (by decide) ?_
    refine kf0_f (P := V p l e zrM_go s m args below meth c A s.heap g 5 Q (wM g M_1) 0 0 [(0, .ref (g.2.2 0))] 39 []) h (fun h => ?_) (fun k_47 hk_47 h => ?_)
    · refine z_aload_n cx d_X12_go_39 40 rfl rfl 0 rfl ?_
      refine z_dup cx d_X12_go_40 41 rfl rfl ?_
      refine z_get cx d_X12_go_41 44 rfl e_M rfl zX12 4 (by decide) q_1365 rfl rfl ?_
      refine y_iconst cx d_X12_go_44 45 rfl ?_
      refine y_iadd cx d_X12_go_45 46 rfl ?_
      refine y_put cx d_X12_go_46 49 rfl e_M rfl zX12 tyX12_ok nmX12 4 (by decide) q_1365 rfl rfl rfl rfl (Nat.le_of_ble_eq_true rfl) h (fun _ h9 => s_M_4 h9) (fun M_48 h => ?_)
      refine z_goto cx d_X12_go_49 0 (by decide) ?_
      exact hrec_2 _ h
    refine y_icmp_eq cx d_X12_go_22 25 rfl 39 (by decide) rfl (nm_eq (x := 32) (by decide) (by decide)) h (fun h => ?_) (fun h => ?_)
    · exact hk_47  h
    · refine z_aload_n cx d_X12_go_25 26 rfl rfl 0 rfl ?_
      refine z_get cx d_X12_go_26 29 rfl e_M rfl zX12 1 (by decide) q_1362 rfl rfl ?_
      refine z_aload_n cx d_X12_go_29 30 rfl rfl 0 rfl ?_
      refine z_get cx d_X12_go_30 33 rfl e_M rfl zX12 4 (by decide) q_1365 rfl rfl ?_
      refine y_ialdx cx d_X12_go_33 34 rfl e_M_tape (by decide) h (fun x_49 h => ?_)
      refine y_bipush cx d_X12_go_34 36 rfl (by decide) ?_
      refine y_icmp_ne cx d_X12_go_36 39 rfl 52 (by decide) rfl (nm_eq (x := 10) (by decide) (by decide)) h (fun h => ?_) (fun h => ?_)
      · exact hk_3  h
      · exact hk_47  h
set_option maxHeartbeats 4000000 in
theorem tM_copy_read_now {l : Launch} {g : ZG} {M : ZB} {a2 : Int} {a4 : Int} {r : ZB} (h : fM_copy_read_now M a2 a4 = some r) : zMv l yX12_copy cX12_copy 5 none zr0 g [.ref (g.2.2 3), .int (zI a2), .ref (g.2.2 2), .int (zI a4)] (wM g M) (wM g r) := by
  unfold fM_copy_read_now at h
  refine zMv_q (own := RX12) rfl (by decide +kernel) (Nat.le_of_ble_eq_true rfl) (lv := [(0, .ref (g.2.2 3)), (1, .int (zI a2)), (2, .ref (g.2.2 2)), (3, .int (zI a4))]) rfl ⟨rfl, rfl⟩ ?_
  intro p e s m args below meth c A Q hQ cx
  refine y_iconst cx d_X12_copy_0 1 rfl ?_
  refine y_istore cx d_X12_copy_1 3 rfl (by decide) (lv' := [(4, .int (zI 0)), (0, .ref (g.2.2 3)), (1, .int (zI a2)), (2, .ref (g.2.2 2)), (3, .int (zI a4))]) rfl ?_
  refine z_sub [1, 2, 3, 4, 0] rfl ?_
  refine lop2_f (P := fun (v4_1 : Int) (M_2 : ZB) => V p l e zr0 s m args below meth c A s.heap g 5 Q (wM g M_2) 0 0 [(0, .ref (g.2.2 3)), (1, .int (zI a2)), (2, .ref (g.2.2 2)), (3, .int (zI a4)), (4, .int (zI v4_1))] 3 []) (fun rec_3 hrec_3 v4_1 M_2 h => ?_) _ _ _ h
  refine z_iload cx d_X12_copy_3 5 rfl 4 rfl ?_
  refine y_sipush cx d_X12_copy_5 8 rfl (by decide) ?_
  refine y_icmp_ge cx d_X12_copy_8 11 rfl 29 (by decide) rfl (nm_eq (x := 147) (by decide) (by decide)) h (fun h => ?_) (fun h => ?_)
  · subst hQ
    obtain rfl := Option.some.inj h
    exact z_vret cx d_X12_copy_29 rfl
  · refine z_aload_n cx d_X12_copy_11 12 rfl rfl 2 rfl ?_
    refine z_iload_n cx d_X12_copy_12 13 rfl rfl 3 rfl ?_
    refine z_iload cx d_X12_copy_13 15 rfl 4 rfl ?_
    refine y_iadd cx d_X12_copy_15 16 rfl ?_
    refine z_aload_n cx d_X12_copy_16 17 rfl rfl 0 rfl ?_
    refine z_iload_n cx d_X12_copy_17 18 rfl rfl 1 rfl ?_
    refine z_iload cx d_X12_copy_18 20 rfl 4 rfl ?_
    refine y_iadd cx d_X12_copy_20 21 rfl ?_
    refine y_ialdx cx d_X12_copy_21 22 rfl e_M_read (by decide) h (fun x_4 h => ?_)
    refine y_iast cx d_X12_copy_22 23 rfl e_M_now (by decide) h (fun _ h9 => s_M_now h9) (fun M_5 h => ?_)
    refine y_iinc cx 4 d_X12_copy_23 26 rfl rfl (by decide) (lv' := [(4, .int (zI (v4_1 + 1))), (0, .ref (g.2.2 3)), (1, .int (zI a2)), (2, .ref (g.2.2 2)), (3, .int (zI a4))]) rfl ?_
    refine z_goto cx d_X12_copy_26 3 (by decide) ?_
    refine z_sub [1, 2, 3, 4, 0] rfl ?_
    exact hrec_3 _ _ h
set_option maxHeartbeats 4000000 in
theorem tM_spelt {l : Launch} {g : ZG} {w : va_W} {a1 : Int} {a2 : Int} {a3 : Int} {a4 : Int} {a5 : Int} {a6 : Int} {a7 : Int} {r : Int} (h : fM_spelt a1 a2 a3 a4 a5 a6 a7 = some r) : zMl l yX12_spelt cX12_spelt 9 (some .long) zr0 g [.int (zI a1), .int (zI a2), .int (zI a3), .int (zI a4), .int (zI a5), .int (zI a6), .int (zI a7)] (w) (w) (zJ r) := by
  unfold fM_spelt at h
  refine zMl_q (own := RX12) rfl (by decide +kernel) (Nat.le_of_ble_eq_true rfl) (lv := [(0, .int (zI a1)), (1, .int (zI a2)), (2, .int (zI a3)), (3, .int (zI a4)), (4, .int (zI a5)), (5, .int (zI a6)), (6, .int (zI a7))]) rfl ⟨rfl, rfl⟩ ?_
  intro p e s m args below meth c A Q hQ cx
  refine y_ldc2_w cx 27 d_X12_spelt_0 3 rfl q_1507 ?_
  refine y_ldc2_w cx 27 d_X12_spelt_3 6 rfl q_1507 ?_
  refine y_ldc2_w cx 27 d_X12_spelt_6 9 rfl q_1507 ?_
  refine z_iload_n cx d_X12_spelt_9 10 rfl rfl 0 rfl ?_
  refine y_i2l2 cx d_X12_spelt_10 11 rfl rfl ?_
  refine y_ldc2_w cx 96 d_X12_spelt_11 14 rfl q_1508 ?_
  refine y_lsub cx d_X12_spelt_14 15 rfl ?_
  refine y_lmul cx d_X12_spelt_15 16 rfl ?_
  refine z_iload_n cx d_X12_spelt_16 17 rfl rfl 1 rfl ?_
  refine y_i2l2 cx d_X12_spelt_17 18 rfl rfl ?_
  refine y_ladd cx d_X12_spelt_18 19 rfl ?_
  refine y_ldc2_w cx 96 d_X12_spelt_19 22 rfl q_1508 ?_
  refine y_lsub cx d_X12_spelt_22 23 rfl ?_
  refine y_lmul cx d_X12_spelt_23 24 rfl ?_
  refine z_iload_n cx d_X12_spelt_24 25 rfl rfl 2 rfl ?_
  refine y_i2l2 cx d_X12_spelt_25 26 rfl rfl ?_
  refine y_ladd cx d_X12_spelt_26 27 rfl ?_
  refine y_ldc2_w cx 96 d_X12_spelt_27 30 rfl q_1508 ?_
  refine y_lsub cx d_X12_spelt_30 31 rfl ?_
  refine y_lmul cx d_X12_spelt_31 32 rfl ?_
  refine z_iload_n cx d_X12_spelt_32 33 rfl rfl 3 rfl ?_
  refine y_i2l2 cx d_X12_spelt_33 34 rfl rfl ?_
  refine y_ladd cx d_X12_spelt_34 35 rfl ?_
  refine y_ldc2_w cx 96 d_X12_spelt_35 38 rfl q_1508 ?_
  refine y_lsub cx d_X12_spelt_38 39 rfl ?_
  refine y_lstore_b cx d_X12_spelt_39 41 rfl (by decide) (fun y => [(7, .long (zJ y)), (0, .int (zI a1)), (1, .int (zI a2)), (2, .int (zI a3)), (3, .int (zI a4)), (4, .int (zI a5)), (5, .int (zI a6)), (6, .int (zI a7))]) (fun y => rfl) h (fun v7_1 h => ?_)
  refine z_iload cx d_X12_spelt_41 43 rfl 5 rfl ?_
  refine kf1_f (P := fun (v7_2 : Int) => V p l e zr0 s m args below meth c A s.heap g 9 Q (w) 0 0 [(5, .int (zI a6)), (6, .int (zI a7)), (7, .long (zJ v7_2))] 62 []) h (fun v7_2 h => ?_) (fun k_3 hk_3 h => ?_)
  · refine z_iload cx d_X12_spelt_62 64 rfl 0 rfl ?_
    refine kf1_f (P := fun (v7_4 : Int) => V p l e zr0 s m args below meth c A s.heap g 9 Q (w) 0 0 [(6, .int (zI a7)), (7, .long (zJ v7_4))] 83 []) h (fun v7_4 h => ?_) (fun k_5 hk_5 h => ?_)
    · refine z_iload cx d_X12_spelt_83 85 rfl 0 rfl ?_
      refine kf1_f (P := fun (v7_6 : Int) => V p l e zr0 s m args below meth c A s.heap g 9 Q (w) 0 0 [(7, .long (zJ v7_6))] 104 []) h (fun v7_6 h => ?_) (fun k_7 hk_7 h => ?_)
      · refine z_lload cx d_X12_spelt_104 106 rfl 0 rfl ?_
        subst hQ
        obtain rfl := Option.some.inj h
        exact z_lret cx d_X12_spelt_106 rfl rfl
      refine y_if_le cx d_X12_spelt_85 88 rfl 104 (by decide) rfl h (fun h => ?_) (fun h => ?_)
      · refine z_sub [1] rfl ?_
        exact hk_7 _ h
      · refine y_ldc2_w cx 27 d_X12_spelt_88 91 rfl q_1507 ?_
        refine z_lload cx d_X12_spelt_91 93 rfl 1 rfl ?_
        refine y_lmul cx d_X12_spelt_93 94 rfl ?_
        refine z_iload cx d_X12_spelt_94 96 rfl 0 rfl ?_
        refine y_i2l2 cx d_X12_spelt_96 97 rfl rfl ?_
        refine y_ladd cx d_X12_spelt_97 98 rfl ?_
        refine y_ldc2_w cx 96 d_X12_spelt_98 101 rfl q_1508 ?_
        refine y_lsub cx d_X12_spelt_101 102 rfl ?_
        refine y_lstore_b cx d_X12_spelt_102 104 rfl (by decide) (fun y => [(7, .long (zJ y)), (6, .int (zI a7))]) (fun y => rfl) h (fun v7_8 h => ?_)
        refine z_sub [0] rfl ?_
        exact hk_7 _ h
    refine y_if_le cx d_X12_spelt_64 67 rfl 83 (by decide) rfl h (fun h => ?_) (fun h => ?_)
    · refine z_sub [1, 2] rfl ?_
      exact hk_5 _ h
    · refine y_ldc2_w cx 27 d_X12_spelt_67 70 rfl q_1507 ?_
      refine z_lload cx d_X12_spelt_70 72 rfl 2 rfl ?_
      refine y_lmul cx d_X12_spelt_72 73 rfl ?_
      refine z_iload cx d_X12_spelt_73 75 rfl 0 rfl ?_
      refine y_i2l2 cx d_X12_spelt_75 76 rfl rfl ?_
      refine y_ladd cx d_X12_spelt_76 77 rfl ?_
      refine y_ldc2_w cx 96 d_X12_spelt_77 80 rfl q_1508 ?_
      refine y_lsub cx d_X12_spelt_80 81 rfl ?_
      refine y_lstore_b cx d_X12_spelt_81 83 rfl (by decide) (fun y => [(7, .long (zJ y)), (5, .int (zI a6)), (6, .int (zI a7))]) (fun y => rfl) h (fun v7_9 h => ?_)
      refine z_sub [2, 0] rfl ?_
      exact hk_5 _ h
  refine y_if_le cx d_X12_spelt_43 46 rfl 62 (by decide) rfl h (fun h => ?_) (fun h => ?_)
  · refine z_sub [6, 7, 0] rfl ?_
    exact hk_3 _ h
  · refine y_ldc2_w cx 27 d_X12_spelt_46 49 rfl q_1507 ?_
    refine z_lload cx d_X12_spelt_49 51 rfl 0 rfl ?_
    refine y_lmul cx d_X12_spelt_51 52 rfl ?_
    refine z_iload cx d_X12_spelt_52 54 rfl 5 rfl ?_
    refine y_i2l2 cx d_X12_spelt_54 55 rfl rfl ?_
    refine y_ladd cx d_X12_spelt_55 56 rfl ?_
    refine y_ldc2_w cx 96 d_X12_spelt_56 59 rfl q_1508 ?_
    refine y_lsub cx d_X12_spelt_59 60 rfl ?_
    refine y_lstore_b cx d_X12_spelt_60 62 rfl (by decide) (fun y => [(7, .long (zJ y)), (0, .int (zI a1)), (1, .int (zI a2)), (2, .int (zI a3)), (3, .int (zI a4)), (4, .int (zI a5)), (5, .int (zI a6)), (6, .int (zI a7))]) (fun y => rfl) h (fun v7_10 h => ?_)
    refine z_sub [6, 7, 0] rfl ?_
    exact hk_3 _ h
set_option maxHeartbeats 4000000 in
theorem tM_isWord {l : Launch} {g : ZG} {M : ZB} {a1 : Int} {r : Int} (h : fM_isWord M a1 = some r) : zMi l yX12_isWord cX12_isWord 3 (some .boolean) zr0 g [.ref (g.2.2 0), .long (zJ a1)] (wM g M) (wM g M) (zI r) := by
  unfold fM_isWord at h
  refine zMi_q (own := RX12) rfl (by decide +kernel) (Nat.le_of_ble_eq_true rfl) (lv := [(0, .ref (g.2.2 0)), (1, .long (zJ a1))]) rfl ⟨rfl, rfl⟩ ?_
  intro p e s m args below meth c A Q hQ cx
  refine z_aload_n cx d_X12_isWord_0 1 rfl rfl 0 rfl ?_
  refine z_get cx d_X12_isWord_1 4 rfl e_M rfl zX12 6 (by decide) q_1367 rfl rfl ?_
  refine y_iconst cx d_X12_isWord_4 5 rfl ?_
  refine kf1_f (P := fun (w0_1 : Int) => V p l e zr0 s m args below meth c A s.heap g 3 Q (wM g M) 0 0 [] 22 [.int (zI w0_1)]) h (fun w0_1 h => ?_) (fun k_2 hk_2 h => ?_)
  · obtain ⟨hz, h⟩ := zo_i h
    subst hQ
    obtain rfl := Option.some.inj h
    exact z_zret cx d_X12_isWord_22 (zb01 hz) rfl rfl
  refine kf0_f (P := V p l e zr0 s m args below meth c A s.heap g 3 Q (wM g M) 0 0 [] 21 []) h (fun h => ?_) (fun k_3 hk_3 h => ?_)
  · refine y_iconst cx d_X12_isWord_21 22 rfl ?_
    exact hk_2 _ h
  refine y_icmp_ne cx d_X12_isWord_5 8 rfl 21 (by decide) rfl (nm_eq (x := 2) (by decide) (by decide)) h (fun h => ?_) (fun h => ?_)
  · refine z_sub [] rfl ?_
    exact hk_3  h
  · refine z_aload_n cx d_X12_isWord_8 9 rfl rfl 0 rfl ?_
    refine z_get cx d_X12_isWord_9 12 rfl e_M rfl zX12 10 (by decide) q_1371 rfl rfl ?_
    refine z_lload_n cx d_X12_isWord_12 13 rfl rfl 1 rfl ?_
    refine y_lcmp cx d_X12_isWord_13 14 rfl ?_
    refine y_if_ne cx d_X12_isWord_14 17 rfl 21 (by decide) (nm_zlcmp _ _) h (fun h => ?_) (fun h => ?_)
    · refine z_sub [] rfl ?_
      exact hk_3  h
    · refine y_iconst cx d_X12_isWord_17 18 rfl ?_
      refine z_goto cx d_X12_isWord_18 22 (by decide) ?_
      refine z_sub [] rfl ?_
      exact hk_2 _ h
def zrM_isPointWord : Room := { frames := 1, cells := 0, slots := 0, locals := 28 }
set_option maxHeartbeats 4000000 in
theorem tM_isPointWord {l : Launch} {g : ZG} {M : ZB}  {r : Int} (h : fM_isPointWord M = some r) : zMi l yX12_isPointWord cX12_isPointWord 1 (some .boolean) zrM_isPointWord g [.ref (g.2.2 0)] (wM g M) (wM g M) (zI r) := by
  unfold fM_isPointWord at h
  refine zMi_q (own := RX12) rfl (by decide +kernel) (Nat.le_of_ble_eq_true rfl) (lv := [(0, .ref (g.2.2 0))]) rfl ⟨rfl, rfl⟩ ?_
  intro p e s m args below meth c A Q hQ cx
  refine z_aload_n cx d_X12_isPointWord_0 1 rfl rfl 0 rfl ?_
  refine y_bipush cx d_X12_isPointWord_1 3 rfl (by decide) ?_
  refine y_bipush cx d_X12_isPointWord_3 5 rfl (by decide) ?_
  refine y_bipush cx d_X12_isPointWord_5 7 rfl (by decide) ?_
  refine y_bipush cx d_X12_isPointWord_7 9 rfl (by decide) ?_
  refine y_bipush cx d_X12_isPointWord_9 11 rfl (by decide) ?_
  refine y_iconst cx d_X12_isPointWord_11 12 rfl ?_
  refine y_iconst cx d_X12_isPointWord_12 13 rfl ?_
  refine y_callS_l (As := [.int (zI 112), .int (zI 111), .int (zI 105), .int (zI 110), .int (zI 116), .int (zI 0), .int (zI 0)]) (rest := [.ref (g.2.2 0)]) (W := fun u_1 => wM g M) (rf := fun u_1 => zJ u_1) (rm := zr0) cx (fun _ hq => tM_spelt hq) d_X12_isPointWord_13 16 rfl kk_X12_spelt q_1513 q_1514 ⟨rfl, rfl⟩ ⟨Nat.le_of_ble_eq_true rfl, Nat.le_of_ble_eq_true rfl⟩ rfl rfl (Nat.le_of_ble_eq_true rfl) ⟨Nat.zero_le _, Nat.zero_le _⟩ h (fun u_1 h => ?_)
  refine y_callV_i (As := [.long (zJ u_1)]) (rest := []) (W := fun u_2 => wM g M) (rf := fun u_2 => zI u_2) (rm := zr0) cx (fun _ hq => tM_isWord hq) d_X12_isPointWord_16 19 rfl kk_X12_isWord q_1516 q_1518 q_50 rfl e_M rfl ⟨rfl, rfl⟩ ⟨Nat.le_of_ble_eq_true rfl, Nat.le_of_ble_eq_true rfl⟩ rfl rfl (Nat.le_of_ble_eq_true rfl) ⟨Nat.zero_le _, Nat.zero_le _⟩ h (fun u_2 h => ?_)
  obtain ⟨hz, h⟩ := zo_i h
  subst hQ
  obtain rfl := Option.some.inj h
  exact z_zret cx d_X12_isPointWord_19 (zb01 hz) rfl rfl
def zrM_isLineWord : Room := { frames := 1, cells := 0, slots := 0, locals := 28 }
set_option maxHeartbeats 4000000 in
theorem tM_isLineWord {l : Launch} {g : ZG} {M : ZB}  {r : Int} (h : fM_isLineWord M = some r) : zMi l yX12_isLineWord cX12_isLineWord 1 (some .boolean) zrM_isLineWord g [.ref (g.2.2 0)] (wM g M) (wM g M) (zI r) := by
  unfold fM_isLineWord at h
  refine zMi_q (own := RX12) rfl (by decide +kernel) (Nat.le_of_ble_eq_true rfl) (lv := [(0, .ref (g.2.2 0))]) rfl ⟨rfl, rfl⟩ ?_
  intro p e s m args below meth c A Q hQ cx
  refine z_aload_n cx d_X12_isLineWord_0 1 rfl rfl 0 rfl ?_
  refine y_bipush cx d_X12_isLineWord_1 3 rfl (by decide) ?_
  refine y_bipush cx d_X12_isLineWord_3 5 rfl (by decide) ?_
  refine y_bipush cx d_X12_isLineWord_5 7 rfl (by decide) ?_
  refine y_bipush cx d_X12_isLineWord_7 9 rfl (by decide) ?_
  refine y_iconst cx d_X12_isLineWord_9 10 rfl ?_
  refine y_iconst cx d_X12_isLineWord_10 11 rfl ?_
  refine y_iconst cx d_X12_isLineWord_11 12 rfl ?_
  refine y_callS_l (As := [.int (zI 108), .int (zI 105), .int (zI 110), .int (zI 101), .int (zI 0), .int (zI 0), .int (zI 0)]) (rest := [.ref (g.2.2 0)]) (W := fun u_1 => wM g M) (rf := fun u_1 => zJ u_1) (rm := zr0) cx (fun _ hq => tM_spelt hq) d_X12_isLineWord_12 15 rfl kk_X12_spelt q_1513 q_1514 ⟨rfl, rfl⟩ ⟨Nat.le_of_ble_eq_true rfl, Nat.le_of_ble_eq_true rfl⟩ rfl rfl (Nat.le_of_ble_eq_true rfl) ⟨Nat.zero_le _, Nat.zero_le _⟩ h (fun u_1 h => ?_)
  refine y_callV_i (As := [.long (zJ u_1)]) (rest := []) (W := fun u_2 => wM g M) (rf := fun u_2 => zI u_2) (rm := zr0) cx (fun _ hq => tM_isWord hq) d_X12_isLineWord_15 18 rfl kk_X12_isWord q_1516 q_1518 q_50 rfl e_M rfl ⟨rfl, rfl⟩ ⟨Nat.le_of_ble_eq_true rfl, Nat.le_of_ble_eq_true rfl⟩ rfl rfl (Nat.le_of_ble_eq_true rfl) ⟨Nat.zero_le _, Nat.zero_le _⟩ h (fun u_2 h => ?_)
  obtain ⟨hz, h⟩ := zo_i h
  subst hQ
  obtain rfl := Option.some.inj h
  exact z_zret cx d_X12_isLineWord_18 (zb01 hz) rfl rfl
def zrM_isForestsWord : Room := { frames := 1, cells := 0, slots := 0, locals := 28 }
set_option maxHeartbeats 4000000 in
theorem tM_isForestsWord {l : Launch} {g : ZG} {M : ZB}  {r : Int} (h : fM_isForestsWord M = some r) : zMi l yX12_isForestsWord cX12_isForestsWord 1 (some .boolean) zrM_isForestsWord g [.ref (g.2.2 0)] (wM g M) (wM g M) (zI r) := by
  unfold fM_isForestsWord at h
  refine zMi_q (own := RX12) rfl (by decide +kernel) (Nat.le_of_ble_eq_true rfl) (lv := [(0, .ref (g.2.2 0))]) rfl ⟨rfl, rfl⟩ ?_
  intro p e s m args below meth c A Q hQ cx
  refine z_aload_n cx d_X12_isForestsWord_0 1 rfl rfl 0 rfl ?_
  refine y_bipush cx d_X12_isForestsWord_1 3 rfl (by decide) ?_
  refine y_bipush cx d_X12_isForestsWord_3 5 rfl (by decide) ?_
  refine y_bipush cx d_X12_isForestsWord_5 7 rfl (by decide) ?_
  refine y_bipush cx d_X12_isForestsWord_7 9 rfl (by decide) ?_
  refine y_bipush cx d_X12_isForestsWord_9 11 rfl (by decide) ?_
  refine y_bipush cx d_X12_isForestsWord_11 13 rfl (by decide) ?_
  refine y_bipush cx d_X12_isForestsWord_13 15 rfl (by decide) ?_
  refine y_callS_l (As := [.int (zI 102), .int (zI 111), .int (zI 114), .int (zI 101), .int (zI 115), .int (zI 116), .int (zI 115)]) (rest := [.ref (g.2.2 0)]) (W := fun u_1 => wM g M) (rf := fun u_1 => zJ u_1) (rm := zr0) cx (fun _ hq => tM_spelt hq) d_X12_isForestsWord_15 18 rfl kk_X12_spelt q_1513 q_1514 ⟨rfl, rfl⟩ ⟨Nat.le_of_ble_eq_true rfl, Nat.le_of_ble_eq_true rfl⟩ rfl rfl (Nat.le_of_ble_eq_true rfl) ⟨Nat.zero_le _, Nat.zero_le _⟩ h (fun u_1 h => ?_)
  refine y_callV_i (As := [.long (zJ u_1)]) (rest := []) (W := fun u_2 => wM g M) (rf := fun u_2 => zI u_2) (rm := zr0) cx (fun _ hq => tM_isWord hq) d_X12_isForestsWord_18 21 rfl kk_X12_isWord q_1516 q_1518 q_50 rfl e_M rfl ⟨rfl, rfl⟩ ⟨Nat.le_of_ble_eq_true rfl, Nat.le_of_ble_eq_true rfl⟩ rfl rfl (Nat.le_of_ble_eq_true rfl) ⟨Nat.zero_le _, Nat.zero_le _⟩ h (fun u_2 h => ?_)
  obtain ⟨hz, h⟩ := zo_i h
  subst hQ
  obtain rfl := Option.some.inj h
  exact z_zret cx d_X12_isForestsWord_21 (zb01 hz) rfl rfl
set_option maxHeartbeats 4000000 in
theorem tM_bad {l : Launch} {g : ZG} {M : ZB} {a1 : Int} {r : Int × ZB} (h : fM_bad M a1 = some r) : zMi l yX12_bad cX12_bad 2 (some .boolean) zr0 g [.ref (g.2.2 0), .int (zI a1)] (wM g M) (wM g r.2) (zI r.1) := by
  unfold fM_bad at h
  refine zMi_q (own := RX12) rfl (by decide +kernel) (Nat.le_of_ble_eq_true rfl) (lv := [(0, .ref (g.2.2 0)), (1, .int (zI a1))]) rfl ⟨rfl, rfl⟩ ?_
  intro p e s m args below meth c A Q hQ cx
  refine z_aload_n cx d_X12_bad_0 1 rfl rfl 0 rfl ?_
  refine z_aload_n cx d_X12_bad_1 2 rfl rfl 0 rfl ?_
  refine z_get cx d_X12_bad_2 5 rfl e_M rfl zX12 6 (by decide) q_1367 rfl rfl ?_
  refine y_iconst cx d_X12_bad_5 6 rfl ?_
  refine kf1_f (P := fun (w1_1 : Int) => V p l e zr0 s m args below meth c A s.heap g 2 Q (wM g M) 0 0 [(0, .ref (g.2.2 0))] 14 [.int (zI w1_1), .ref (g.2.2 0)]) h (fun w1_1 h => ?_) (fun k_2 hk_2 h => ?_)
  · refine y_put cx d_X12_bad_14 17 rfl e_M rfl zX12 tyX12_ok nmX12 8 (by decide) q_1369 rfl rfl rfl rfl (Nat.le_of_ble_eq_true rfl) h (fun _ h9 => s_M_8 h9) (fun M_3 h => ?_)
    refine z_aload_n cx d_X12_bad_17 18 rfl rfl 0 rfl ?_
    refine z_aload_n cx d_X12_bad_18 19 rfl rfl 0 rfl ?_
    refine z_get cx d_X12_bad_19 22 rfl e_M rfl zX12 5 (by decide) q_1366 rfl rfl ?_
    refine y_put cx d_X12_bad_22 25 rfl e_M rfl zX12 tyX12_ok nmX12 9 (by decide) q_1370 rfl rfl rfl rfl (Nat.le_of_ble_eq_true rfl) h (fun _ h9 => s_M_9 h9) (fun M_4 h => ?_)
    refine y_iconst cx d_X12_bad_25 26 rfl ?_
    subst hQ
    obtain rfl := Option.some.inj h
    exact z_zret cx d_X12_bad_26 (zb01 (by decide)) rfl rfl
  refine y_icmp_ne cx d_X12_bad_6 9 rfl 13 (by decide) rfl (nm_eq (x := 1) (by decide) (by decide)) h (fun h => ?_) (fun h => ?_)
  · refine z_iload_n cx d_X12_bad_13 14 rfl rfl 1 rfl ?_
    refine z_sub [0] rfl ?_
    exact hk_2 _ h
  · refine y_iconst cx d_X12_bad_9 10 rfl ?_
    refine z_goto cx d_X12_bad_10 14 (by decide) ?_
    refine z_sub [0] rfl ?_
    exact hk_2 _ h
set_option maxHeartbeats 4000000 in
theorem tM_isIn {l : Launch} {g : ZG} {w : va_W} {a1 : Int} {a2 : Int} {a3 : Int} {r : Int} (h : fM_isIn a1 a2 a3 = some r) : zMi l yX12_isIn cX12_isIn 3 (some .boolean) zr0 g [.int (zI a1), .int (zI a2), .int (zI a3)] (w) (w) (zI r) := by
  unfold fM_isIn at h
  refine zMi_q (own := RX12) rfl (by decide +kernel) (Nat.le_of_ble_eq_true rfl) (lv := [(0, .int (zI a1)), (1, .int (zI a2)), (2, .int (zI a3))]) rfl ⟨rfl, rfl⟩ ?_
  intro p e s m args below meth c A Q hQ cx
  refine z_iload_n cx d_X12_isIn_0 1 rfl rfl 0 rfl ?_
  refine z_iload_n cx d_X12_isIn_1 2 rfl rfl 1 rfl ?_
  refine kf1_f (P := fun (w0_1 : Int) => V p l e zr0 s m args below meth c A s.heap g 3 Q (w) 0 0 [] 15 [.int (zI w0_1)]) h (fun w0_1 h => ?_) (fun k_2 hk_2 h => ?_)
  · obtain ⟨hz, h⟩ := zo_i h
    subst hQ
    obtain rfl := Option.some.inj h
    exact z_zret cx d_X12_isIn_15 (zb01 hz) rfl rfl
  refine kf0_f (P := V p l e zr0 s m args below meth c A s.heap g 3 Q (w) 0 0 [] 14 []) h (fun h => ?_) (fun k_3 hk_3 h => ?_)
  · refine y_iconst cx d_X12_isIn_14 15 rfl ?_
    exact hk_2 _ h
  refine y_icmp_lt cx d_X12_isIn_2 5 rfl 14 (by decide) rfl rfl h (fun h => ?_) (fun h => ?_)
  · refine z_sub [] rfl ?_
    exact hk_3  h
  · refine z_iload_n cx d_X12_isIn_5 6 rfl rfl 0 rfl ?_
    refine z_iload_n cx d_X12_isIn_6 7 rfl rfl 2 rfl ?_
    refine y_icmp_gt cx d_X12_isIn_7 10 rfl 14 (by decide) rfl rfl h (fun h => ?_) (fun h => ?_)
    · refine z_sub [] rfl ?_
      exact hk_3  h
    · refine y_iconst cx d_X12_isIn_10 11 rfl ?_
      refine z_goto cx d_X12_isIn_11 15 (by decide) ?_
      refine z_sub [] rfl ?_
      exact hk_2 _ h
def zrM_readNumber : Room := { frames := 2, cells := 0, slots := 0, locals := 45 }
set_option maxHeartbeats 4000000 in
theorem tM_readNumber {l : Launch} {g : ZG} {M : ZB} {a1 : Int} {a2 : Int} {r : Int × ZB} (h : fM_readNumber M a1 a2 = some r) : zMi l yX12_readNumber cX12_readNumber 3 (some .boolean) zrM_readNumber g [.ref (g.2.2 0), .int (zI a1), .int (zI a2)] (wM g M) (wM g r.2) (zI r.1) := by
  unfold fM_readNumber at h
  refine zMi_q (own := RX12) rfl (by decide +kernel) (Nat.le_of_ble_eq_true rfl) (lv := [(0, .ref (g.2.2 0)), (1, .int (zI a1)), (2, .int (zI a2))]) rfl ⟨rfl, rfl⟩ ?_
  intro p e s m args below meth c A Q hQ cx
  refine z_aload_n cx d_X12_readNumber_0 1 rfl rfl 0 rfl ?_
  refine z_get cx d_X12_readNumber_1 4 rfl e_M rfl zX12 6 (by decide) q_1367 rfl rfl ?_
  refine y_iconst cx d_X12_readNumber_4 5 rfl ?_
  refine y_icmp_eq cx d_X12_readNumber_5 8 rfl 14 (by decide) rfl (nm_eq (x := 3) (by decide) (by decide)) h (fun h => ?_) (fun h => ?_)
  · refine z_aload_n cx d_X12_readNumber_14 15 rfl rfl 0 rfl ?_
    refine z_get cx d_X12_readNumber_15 18 rfl e_M rfl zX12 7 (by decide) q_1368 rfl rfl ?_
    refine z_iload_n cx d_X12_readNumber_18 19 rfl rfl 1 rfl ?_
    refine z_iload_n cx d_X12_readNumber_19 20 rfl rfl 2 rfl ?_
    refine y_callS_i (As := [.int (zI (M.1 7)), .int (zI a1), .int (zI a2)]) (rest := []) (W := fun u_1 => wM g M) (rf := fun u_1 => zI u_1) (rm := zr0) cx (fun _ hq => tM_isIn hq) d_X12_readNumber_20 23 rfl kk_X12_isIn q_1552 q_1553 ⟨rfl, rfl⟩ ⟨Nat.le_of_ble_eq_true rfl, Nat.le_of_ble_eq_true rfl⟩ rfl rfl (Nat.le_of_ble_eq_true rfl) ⟨Nat.zero_le _, Nat.zero_le _⟩ h (fun u_1 h => ?_)
    refine y_if_ne cx d_X12_readNumber_23 26 rfl 32 (by decide) rfl h (fun h => ?_) (fun h => ?_)
    · refine z_aload_n cx d_X12_readNumber_32 33 rfl rfl 0 rfl ?_
      refine z_aload_n cx d_X12_readNumber_33 34 rfl rfl 0 rfl ?_
      refine z_get cx d_X12_readNumber_34 37 rfl e_M rfl zX12 7 (by decide) q_1368 rfl rfl ?_
      refine y_put cx d_X12_readNumber_37 40 rfl e_M rfl zX12 tyX12_ok nmX12 11 (by decide) q_1372 rfl rfl rfl rfl (Nat.le_of_ble_eq_true rfl) h (fun _ h9 => s_M_11 h9) (fun M_2 h => ?_)
      refine z_aload_n cx d_X12_readNumber_40 41 rfl rfl 0 rfl ?_
      refine y_callV_v (As := []) (rest := []) (W := fun u_3 => wM g u_3) (rm := zrM_go) cx (fun _ hq => tM_go hq) d_X12_readNumber_41 44 rfl kk_X12_go q_1493 q_1495 q_47 rfl e_M rfl ⟨rfl, rfl⟩ ⟨Nat.le_of_ble_eq_true rfl, Nat.le_of_ble_eq_true rfl⟩ rfl rfl (Nat.le_of_ble_eq_true rfl) ⟨Nat.zero_le _, Nat.zero_le _⟩ h (fun u_3 h => ?_)
      refine y_iconst cx d_X12_readNumber_44 45 rfl ?_
      subst hQ
      obtain rfl := Option.some.inj h
      exact z_zret cx d_X12_readNumber_45 (zb01 (by decide)) rfl rfl
    · refine z_aload_n cx d_X12_readNumber_26 27 rfl rfl 0 rfl ?_
      refine y_iconst cx d_X12_readNumber_27 28 rfl ?_
      refine y_callV_i (As := [.int (zI 2)]) (rest := []) (W := fun u_4 => wM g u_4.2) (rf := fun u_4 => zI u_4.1) (rm := zr0) cx (fun _ hq => tM_bad hq) d_X12_readNumber_28 31 rfl kk_X12_bad q_1524 q_1526 q_52 rfl e_M rfl ⟨rfl, rfl⟩ ⟨Nat.le_of_ble_eq_true rfl, Nat.le_of_ble_eq_true rfl⟩ rfl rfl (Nat.le_of_ble_eq_true rfl) ⟨Nat.zero_le _, Nat.zero_le _⟩ h (fun u_4 h => ?_)
      obtain ⟨hz, h⟩ := zo_i h
      subst hQ
      obtain rfl := Option.some.inj h
      exact z_zret cx d_X12_readNumber_31 (zb01 hz) rfl rfl
  · refine z_aload_n cx d_X12_readNumber_8 9 rfl rfl 0 rfl ?_
    refine y_iconst cx d_X12_readNumber_9 10 rfl ?_
    refine y_callV_i (As := [.int (zI 1)]) (rest := []) (W := fun u_5 => wM g u_5.2) (rf := fun u_5 => zI u_5.1) (rm := zr0) cx (fun _ hq => tM_bad hq) d_X12_readNumber_10 13 rfl kk_X12_bad q_1524 q_1526 q_52 rfl e_M rfl ⟨rfl, rfl⟩ ⟨Nat.le_of_ble_eq_true rfl, Nat.le_of_ble_eq_true rfl⟩ rfl rfl (Nat.le_of_ble_eq_true rfl) ⟨Nat.zero_le _, Nat.zero_le _⟩ h (fun u_5 h => ?_)
    obtain ⟨hz, h⟩ := zo_i h
    subst hQ
    obtain rfl := Option.some.inj h
    exact z_zret cx d_X12_readNumber_13 (zb01 hz) rfl rfl
def zrM_readForests : Room := { frames := 3, cells := 0, slots := 0, locals := 67 }
set_option maxHeartbeats 4000000 in
theorem tM_readForests {l : Launch} {g : ZG} {M : ZB}  {r : Int × ZB} (h : fM_readForests M = some r) : zMi l yX12_readForests cX12_readForests 1 (some .boolean) zrM_readForests g [.ref (g.2.2 0)] (wM g M) (wM g r.2) (zI r.1) := by
  unfold fM_readForests at h
  refine zMi_q (own := RX12) rfl (by decide +kernel) (Nat.le_of_ble_eq_true rfl) (lv := [(0, .ref (g.2.2 0))]) rfl ⟨rfl, rfl⟩ ?_
  intro p e s m args below meth c A Q hQ cx
  refine z_aload_n cx d_X12_readForests_0 1 rfl rfl 0 rfl ?_
  refine z_get cx d_X12_readForests_1 4 rfl e_M rfl zX12 13 (by decide) q_1374 rfl rfl ?_
  refine y_iconst cx d_X12_readForests_4 5 rfl ?_
  refine y_ialdx cx d_X12_readForests_5 6 rfl e_M_read (by decide) h (fun x_1 h => ?_)
  refine y_if_eq cx d_X12_readForests_6 9 rfl 15 (by decide) rfl h (fun h => ?_) (fun h => ?_)
  · refine z_aload_n cx d_X12_readForests_15 16 rfl rfl 0 rfl ?_
    refine y_callV_v (As := []) (rest := []) (W := fun u_2 => wM g u_2) (rm := zrM_go) cx (fun _ hq => tM_go hq) d_X12_readForests_16 19 rfl kk_X12_go q_1493 q_1495 q_47 rfl e_M rfl ⟨rfl, rfl⟩ ⟨Nat.le_of_ble_eq_true rfl, Nat.le_of_ble_eq_true rfl⟩ rfl rfl (Nat.le_of_ble_eq_true rfl) ⟨Nat.zero_le _, Nat.zero_le _⟩ h (fun u_2 h => ?_)
    refine z_aload_n cx d_X12_readForests_19 20 rfl rfl 0 rfl ?_
    refine y_iconst cx d_X12_readForests_20 21 rfl ?_
    refine y_iconst cx d_X12_readForests_21 22 rfl ?_
    refine y_callV_i (As := [.int (zI 1), .int (zI 5)]) (rest := []) (W := fun u_3 => wM g u_3.2) (rf := fun u_3 => zI u_3.1) (rm := zrM_readNumber) cx (fun _ hq => tM_readNumber hq) d_X12_readForests_22 25 rfl kk_X12_readNumber q_1548 q_1550 q_58 rfl e_M rfl ⟨rfl, rfl⟩ ⟨Nat.le_of_ble_eq_true rfl, Nat.le_of_ble_eq_true rfl⟩ rfl rfl (Nat.le_of_ble_eq_true rfl) ⟨Nat.zero_le _, Nat.zero_le _⟩ h (fun u_3 h => ?_)
    refine y_if_ne cx d_X12_readForests_25 28 rfl 30 (by decide) rfl h (fun h => ?_) (fun h => ?_)
    · refine z_aload_n cx d_X12_readForests_30 31 rfl rfl 0 rfl ?_
      refine z_get cx d_X12_readForests_31 34 rfl e_M rfl zX12 13 (by decide) q_1374 rfl rfl ?_
      refine y_iconst cx d_X12_readForests_34 35 rfl ?_
      refine z_aload_n cx d_X12_readForests_35 36 rfl rfl 0 rfl ?_
      refine z_get cx d_X12_readForests_36 39 rfl e_M rfl zX12 11 (by decide) q_1372 rfl rfl ?_
      refine y_iast cx d_X12_readForests_39 40 rfl e_M_read (by decide) h (fun _ h9 => s_M_read h9) (fun M_4 h => ?_)
      refine y_iconst cx d_X12_readForests_40 41 rfl ?_
      subst hQ
      obtain rfl := Option.some.inj h
      exact z_zret cx d_X12_readForests_41 (zb01 (by decide)) rfl rfl
    · refine y_iconst cx d_X12_readForests_28 29 rfl ?_
      subst hQ
      obtain rfl := Option.some.inj h
      exact z_zret cx d_X12_readForests_29 (zb01 (by decide)) rfl rfl
  · refine z_aload_n cx d_X12_readForests_9 10 rfl rfl 0 rfl ?_
    refine y_iconst cx d_X12_readForests_10 11 rfl ?_
    refine y_callV_i (As := [.int (zI 3)]) (rest := []) (W := fun u_5 => wM g u_5.2) (rf := fun u_5 => zI u_5.1) (rm := zr0) cx (fun _ hq => tM_bad hq) d_X12_readForests_11 14 rfl kk_X12_bad q_1524 q_1526 q_52 rfl e_M rfl ⟨rfl, rfl⟩ ⟨Nat.le_of_ble_eq_true rfl, Nat.le_of_ble_eq_true rfl⟩ rfl rfl (Nat.le_of_ble_eq_true rfl) ⟨Nat.zero_le _, Nat.zero_le _⟩ h (fun u_5 h => ?_)
    obtain ⟨hz, h⟩ := zo_i h
    subst hQ
    obtain rfl := Option.some.inj h
    exact z_zret cx d_X12_readForests_14 (zb01 hz) rfl rfl
def zrM_isName : Room := { frames := 2, cells := 0, slots := 0, locals := 48 }
set_option maxHeartbeats 4000000 in
theorem tM_isName {l : Launch} {g : ZG} {M : ZB}  {r : Int} (h : fM_isName M = some r) : zMi l yX12_isName cX12_isName 1 (some .boolean) zrM_isName g [.ref (g.2.2 0)] (wM g M) (wM g M) (zI r) := by
  unfold fM_isName at h
  refine zMi_q (own := RX12) rfl (by decide +kernel) (Nat.le_of_ble_eq_true rfl) (lv := [(0, .ref (g.2.2 0))]) rfl ⟨rfl, rfl⟩ ?_
  intro p e s m args below meth c A Q hQ cx
  refine z_aload_n cx d_X12_isName_0 1 rfl rfl 0 rfl ?_
  refine z_get cx d_X12_isName_1 4 rfl e_M rfl zX12 6 (by decide) q_1367 rfl rfl ?_
  refine y_iconst cx d_X12_isName_4 5 rfl ?_
  refine kf1_f (P := fun (w0_1 : Int) => V p l e zrM_isName s m args below meth c A s.heap g 1 Q (wM g M) 0 0 [] 34 [.int (zI w0_1)]) h (fun w0_1 h => ?_) (fun k_2 hk_2 h => ?_)
  · obtain ⟨hz, h⟩ := zo_i h
    subst hQ
    obtain rfl := Option.some.inj h
    exact z_zret cx d_X12_isName_34 (zb01 hz) rfl rfl
  refine kf0_f (P := V p l e zrM_isName s m args below meth c A s.heap g 1 Q (wM g M) 0 0 [] 33 []) h (fun h => ?_) (fun k_3 hk_3 h => ?_)
  · refine y_iconst cx d_X12_isName_33 34 rfl ?_
    exact hk_2 _ h
  refine y_icmp_ne cx d_X12_isName_5 8 rfl 33 (by decide) rfl (nm_eq (x := 2) (by decide) (by decide)) h (fun h => ?_) (fun h => ?_)
  · refine z_sub [] rfl ?_
    exact hk_3  h
  · refine z_aload_n cx d_X12_isName_8 9 rfl rfl 0 rfl ?_
    refine y_callV_i (As := []) (rest := []) (W := fun u_4 => wM g M) (rf := fun u_4 => zI u_4) (rm := zrM_isPointWord) cx (fun _ hq => tM_isPointWord hq) d_X12_isName_9 12 rfl kk_X12_isPointWord q_1509 q_1511 q_49 rfl e_M rfl ⟨rfl, rfl⟩ ⟨Nat.le_of_ble_eq_true rfl, Nat.le_of_ble_eq_true rfl⟩ rfl rfl (Nat.le_of_ble_eq_true rfl) ⟨Nat.zero_le _, Nat.zero_le _⟩ h (fun u_4 h => ?_)
    refine y_if_ne cx d_X12_isName_12 15 rfl 33 (by decide) rfl h (fun h => ?_) (fun h => ?_)
    · refine z_sub [] rfl ?_
      exact hk_3  h
    · refine z_aload_n cx d_X12_isName_15 16 rfl rfl 0 rfl ?_
      refine y_callV_i (As := []) (rest := []) (W := fun u_5 => wM g M) (rf := fun u_5 => zI u_5) (rm := zrM_isLineWord) cx (fun _ hq => tM_isLineWord hq) d_X12_isName_16 19 rfl kk_X12_isLineWord q_1532 q_1534 q_54 rfl e_M rfl ⟨rfl, rfl⟩ ⟨Nat.le_of_ble_eq_true rfl, Nat.le_of_ble_eq_true rfl⟩ rfl rfl (Nat.le_of_ble_eq_true rfl) ⟨Nat.zero_le _, Nat.zero_le _⟩ h (fun u_5 h => ?_)
      refine y_if_ne cx d_X12_isName_19 22 rfl 33 (by decide) rfl h (fun h => ?_) (fun h => ?_)
      · refine z_sub [] rfl ?_
        exact hk_3  h
      · refine z_aload_n cx d_X12_isName_22 23 rfl rfl 0 rfl ?_
        refine y_callV_i (As := []) (rest := []) (W := fun u_6 => wM g M) (rf := fun u_6 => zI u_6) (rm := zrM_isForestsWord) cx (fun _ hq => tM_isForestsWord hq) d_X12_isName_23 26 rfl kk_X12_isForestsWord q_1536 q_1538 q_55 rfl e_M rfl ⟨rfl, rfl⟩ ⟨Nat.le_of_ble_eq_true rfl, Nat.le_of_ble_eq_true rfl⟩ rfl rfl (Nat.le_of_ble_eq_true rfl) ⟨Nat.zero_le _, Nat.zero_le _⟩ h (fun u_6 h => ?_)
        refine y_if_ne cx d_X12_isName_26 29 rfl 33 (by decide) rfl h (fun h => ?_) (fun h => ?_)
        · refine z_sub [] rfl ?_
          exact hk_3  h
        · refine y_iconst cx d_X12_isName_29 30 rfl ?_
          refine z_goto cx d_X12_isName_30 34 (by decide) ?_
          refine z_sub [] rfl ?_
          exact hk_2 _ h
set_option maxHeartbeats 4000000 in
theorem tM_named {l : Launch} {g : ZG} {M : ZB}  {r : Int} (h : fM_named M = some r) : zMi l yX12_named cX12_named 2 (some .int) zr0 g [.ref (g.2.2 0)] (wM g M) (wM g M) (zI r) := by
  unfold fM_named at h
  refine zMi_q (own := RX12) rfl (by decide +kernel) (Nat.le_of_ble_eq_true rfl) (lv := [(0, .ref (g.2.2 0))]) rfl ⟨rfl, rfl⟩ ?_
  intro p e s m args below meth c A Q hQ cx
  refine y_iconst cx d_X12_named_0 1 rfl ?_
  refine y_istore_n cx d_X12_named_1 2 rfl rfl (by decide) (lv' := [(1, .int (zI 0)), (0, .ref (g.2.2 0))]) rfl ?_
  refine z_sub [1, 0] rfl ?_
  refine lop1_f (P := fun (v1_1 : Int) => V p l e zr0 s m args below meth c A s.heap g 2 Q (wM g M) 0 0 [(0, .ref (g.2.2 0)), (1, .int (zI v1_1))] 2 []) (fun rec_2 hrec_2 v1_1 h => ?_) _ _ h
  refine z_iload_n cx d_X12_named_2 3 rfl rfl 1 rfl ?_
  refine z_aload_n cx d_X12_named_3 4 rfl rfl 0 rfl ?_
  refine z_get cx d_X12_named_4 7 rfl e_M rfl zX12 13 (by decide) q_1374 rfl rfl ?_
  refine y_iconst cx d_X12_named_7 8 rfl ?_
  refine y_ialdx cx d_X12_named_8 9 rfl e_M_read (by decide) h (fun x_3 h => ?_)
  refine y_icmp_ge cx d_X12_named_9 12 rfl 34 (by decide) rfl rfl h (fun h => ?_) (fun h => ?_)
  · refine y_iconst cx d_X12_named_34 35 rfl ?_
    subst hQ
    obtain rfl := Option.some.inj h
    exact z_iret cx d_X12_named_35 rfl rfl
  · refine z_aload_n cx d_X12_named_12 13 rfl rfl 0 rfl ?_
    refine z_get cx d_X12_named_13 16 rfl e_M rfl zX12 18 (by decide) q_1379 rfl rfl ?_
    refine z_iload_n cx d_X12_named_16 17 rfl rfl 1 rfl ?_
    refine y_laldx cx d_X12_named_17 18 rfl e_M_names (by decide) h (fun x_4 h => ?_)
    refine z_aload_n cx d_X12_named_18 19 rfl rfl 0 rfl ?_
    refine z_get cx d_X12_named_19 22 rfl e_M rfl zX12 10 (by decide) q_1371 rfl rfl ?_
    refine y_lcmp cx d_X12_named_22 23 rfl ?_
    refine y_if_ne cx d_X12_named_23 26 rfl 28 (by decide) (nm_zlcmp _ _) h (fun h => ?_) (fun h => ?_)
    · refine y_iinc cx 1 d_X12_named_28 31 rfl rfl (by decide) (lv' := [(1, .int (zI (v1_1 + 1))), (0, .ref (g.2.2 0))]) rfl ?_
      refine z_goto cx d_X12_named_31 2 (by decide) ?_
      refine z_sub [1, 0] rfl ?_
      exact hrec_2 _ h
    · refine z_iload_n cx d_X12_named_26 27 rfl rfl 1 rfl ?_
      subst hQ
      obtain rfl := Option.some.inj h
      exact z_iret cx d_X12_named_27 rfl rfl
def zrM_readLine : Room := { frames := 3, cells := 0, slots := 0, locals := 68 }
set_option maxHeartbeats 4000000 in
theorem tM_readLine {l : Launch} {g : ZG} {M : ZB}  {r : Int × ZB} (h : fM_readLine M = some r) : zMi l yX12_readLine cX12_readLine 4 (some .boolean) zrM_readLine g [.ref (g.2.2 0)] (wM g M) (wM g r.2) (zI r.1) := by
  unfold fM_readLine at h
  refine zMi_q (own := RX12) rfl (by decide +kernel) (Nat.le_of_ble_eq_true rfl) (lv := [(0, .ref (g.2.2 0))]) rfl ⟨rfl, rfl⟩ ?_
  intro p e s m args below meth c A Q hQ cx
  refine z_aload_n cx d_X12_readLine_0 1 rfl rfl 0 rfl ?_
  refine z_get cx d_X12_readLine_1 4 rfl e_M rfl zX12 13 (by decide) q_1374 rfl rfl ?_
  refine y_iconst cx d_X12_readLine_4 5 rfl ?_
  refine y_ialdx cx d_X12_readLine_5 6 rfl e_M_read (by decide) h (fun x_1 h => ?_)
  refine y_istore_n cx d_X12_readLine_6 7 rfl rfl (by decide) (lv' := [(1, .int (zI x_1)), (0, .ref (g.2.2 0))]) rfl ?_
  refine z_iload_n cx d_X12_readLine_7 8 rfl rfl 0 rfl ?_
  refine y_bipush cx d_X12_readLine_8 10 rfl (by decide) ?_
  refine y_icmp_ne cx d_X12_readLine_10 13 rfl 19 (by decide) rfl (nm_eq (x := 24) (by decide) (by decide)) h (fun h => ?_) (fun h => ?_)
  · refine z_aload_n cx d_X12_readLine_19 20 rfl rfl 1 rfl ?_
    refine y_callV_v (As := []) (rest := []) (W := fun u_2 => wM g u_2) (rm := zrM_go) cx (fun _ hq => tM_go hq) d_X12_readLine_20 23 rfl kk_X12_go q_1493 q_1495 q_47 rfl e_M rfl ⟨rfl, rfl⟩ ⟨Nat.le_of_ble_eq_true rfl, Nat.le_of_ble_eq_true rfl⟩ rfl rfl (Nat.le_of_ble_eq_true rfl) ⟨Nat.zero_le _, Nat.zero_le _⟩ h (fun u_2 h => ?_)
    refine z_aload_n cx d_X12_readLine_23 24 rfl rfl 1 rfl ?_
    refine y_callV_i (As := []) (rest := []) (W := fun u_3 => wM g u_2) (rf := fun u_3 => zI u_3) (rm := zrM_isName) cx (fun _ hq => tM_isName hq) d_X12_readLine_24 27 rfl kk_X12_isName q_1528 q_1530 q_53 rfl e_M rfl ⟨rfl, rfl⟩ ⟨Nat.le_of_ble_eq_true rfl, Nat.le_of_ble_eq_true rfl⟩ rfl rfl (Nat.le_of_ble_eq_true rfl) ⟨Nat.zero_le _, Nat.zero_le _⟩ h (fun u_3 h => ?_)
    refine y_if_ne cx d_X12_readLine_27 30 rfl 36 (by decide) rfl h (fun h => ?_) (fun h => ?_)
    · refine z_aload_n cx d_X12_readLine_36 37 rfl rfl 1 rfl ?_
      refine y_callV_i (As := []) (rest := []) (W := fun u_4 => wM g u_2) (rf := fun u_4 => zI u_4) (rm := zr0) cx (fun _ hq => tM_named hq) d_X12_readLine_37 40 rfl kk_X12_named q_1540 q_1542 q_56 rfl e_M rfl ⟨rfl, rfl⟩ ⟨Nat.le_of_ble_eq_true rfl, Nat.le_of_ble_eq_true rfl⟩ rfl rfl (Nat.le_of_ble_eq_true rfl) ⟨Nat.zero_le _, Nat.zero_le _⟩ h (fun u_4 h => ?_)
      refine y_istore_n cx d_X12_readLine_40 41 rfl rfl (by decide) (lv' := [(2, .int (zI u_4)), (1, .int (zI x_1)), (0, .ref (g.2.2 0))]) rfl ?_
      refine z_iload_n cx d_X12_readLine_41 42 rfl rfl 0 rfl ?_
      refine y_iconst cx d_X12_readLine_42 43 rfl ?_
      refine y_icmp_ne cx d_X12_readLine_43 46 rfl 52 (by decide) rfl (nm_eq (x := (-1)) (by decide) (by decide)) h (fun h => ?_) (fun h => ?_)
      · refine z_aload_n cx d_X12_readLine_52 53 rfl rfl 2 rfl ?_
        refine y_callV_v (As := []) (rest := []) (W := fun u_5 => wM g u_5) (rm := zrM_go) cx (fun _ hq => tM_go hq) d_X12_readLine_53 56 rfl kk_X12_go q_1493 q_1495 q_47 rfl e_M rfl ⟨rfl, rfl⟩ ⟨Nat.le_of_ble_eq_true rfl, Nat.le_of_ble_eq_true rfl⟩ rfl rfl (Nat.le_of_ble_eq_true rfl) ⟨Nat.zero_le _, Nat.zero_le _⟩ h (fun u_5 h => ?_)
        refine z_aload_n cx d_X12_readLine_56 57 rfl rfl 2 rfl ?_
        refine y_callV_i (As := []) (rest := []) (W := fun u_6 => wM g u_5) (rf := fun u_6 => zI u_6) (rm := zrM_isName) cx (fun _ hq => tM_isName hq) d_X12_readLine_57 60 rfl kk_X12_isName q_1528 q_1530 q_53 rfl e_M rfl ⟨rfl, rfl⟩ ⟨Nat.le_of_ble_eq_true rfl, Nat.le_of_ble_eq_true rfl⟩ rfl rfl (Nat.le_of_ble_eq_true rfl) ⟨Nat.zero_le _, Nat.zero_le _⟩ h (fun u_6 h => ?_)
        refine y_if_ne cx d_X12_readLine_60 63 rfl 69 (by decide) rfl h (fun h => ?_) (fun h => ?_)
        · refine z_aload_n cx d_X12_readLine_69 70 rfl rfl 2 rfl ?_
          refine y_callV_i (As := []) (rest := []) (W := fun u_7 => wM g u_5) (rf := fun u_7 => zI u_7) (rm := zr0) cx (fun _ hq => tM_named hq) d_X12_readLine_70 73 rfl kk_X12_named q_1540 q_1542 q_56 rfl e_M rfl ⟨rfl, rfl⟩ ⟨Nat.le_of_ble_eq_true rfl, Nat.le_of_ble_eq_true rfl⟩ rfl rfl (Nat.le_of_ble_eq_true rfl) ⟨Nat.zero_le _, Nat.zero_le _⟩ h (fun u_7 h => ?_)
          refine y_istore_n cx d_X12_readLine_73 74 rfl rfl (by decide) (lv' := [(3, .int (zI u_7)), (2, .int (zI u_4)), (1, .int (zI x_1)), (0, .ref (g.2.2 0))]) rfl ?_
          refine z_iload_n cx d_X12_readLine_74 75 rfl rfl 0 rfl ?_
          refine y_iconst cx d_X12_readLine_75 76 rfl ?_
          refine kf0_f (P := V p l e zrM_readLine s m args below meth c A s.heap g 4 Q (wM g u_5) 0 0 [(0, .ref (g.2.2 0))] 84 []) h (fun h => ?_) (fun k_8 hk_8 h => ?_)
          · refine z_aload_n cx d_X12_readLine_84 85 rfl rfl 0 rfl ?_
            refine y_iconst cx d_X12_readLine_85 86 rfl ?_
            refine y_callV_i (As := [.int (zI 3)]) (rest := []) (W := fun u_9 => wM g u_9.2) (rf := fun u_9 => zI u_9.1) (rm := zr0) cx (fun _ hq => tM_bad hq) d_X12_readLine_86 89 rfl kk_X12_bad q_1524 q_1526 q_52 rfl e_M rfl ⟨rfl, rfl⟩ ⟨Nat.le_of_ble_eq_true rfl, Nat.le_of_ble_eq_true rfl⟩ rfl rfl (Nat.le_of_ble_eq_true rfl) ⟨Nat.zero_le _, Nat.zero_le _⟩ h (fun u_9 h => ?_)
            obtain ⟨hz, h⟩ := zo_i h
            subst hQ
            obtain rfl := Option.some.inj h
            exact z_zret cx d_X12_readLine_89 (zb01 hz) rfl rfl
          refine y_icmp_eq cx d_X12_readLine_76 79 rfl 84 (by decide) rfl (nm_eq (x := (-1)) (by decide) (by decide)) h (fun h => ?_) (fun h => ?_)
          · refine z_sub [3] rfl ?_
            exact hk_8  h
          · refine z_iload_n cx d_X12_readLine_79 80 rfl rfl 0 rfl ?_
            refine z_iload_n cx d_X12_readLine_80 81 rfl rfl 1 rfl ?_
            refine y_icmp_ne cx d_X12_readLine_81 84 rfl 90 (by decide) rfl rfl h (fun h => ?_) (fun h => ?_)
            · refine z_aload_n cx d_X12_readLine_90 91 rfl rfl 3 rfl ?_
              refine y_callV_v (As := []) (rest := []) (W := fun u_10 => wM g u_10) (rm := zrM_go) cx (fun _ hq => tM_go hq) d_X12_readLine_91 94 rfl kk_X12_go q_1493 q_1495 q_47 rfl e_M rfl ⟨rfl, rfl⟩ ⟨Nat.le_of_ble_eq_true rfl, Nat.le_of_ble_eq_true rfl⟩ rfl rfl (Nat.le_of_ble_eq_true rfl) ⟨Nat.zero_le _, Nat.zero_le _⟩ h (fun u_10 h => ?_)
              refine z_aload_n cx d_X12_readLine_94 95 rfl rfl 3 rfl ?_
              refine y_iconst cx d_X12_readLine_95 96 rfl ?_
              refine y_bipush cx d_X12_readLine_96 98 rfl (by decide) ?_
              refine y_callV_i (As := [.int (zI 1), .int (zI 99)]) (rest := []) (W := fun u_11 => wM g u_11.2) (rf := fun u_11 => zI u_11.1) (rm := zrM_readNumber) cx (fun _ hq => tM_readNumber hq) d_X12_readLine_98 101 rfl kk_X12_readNumber q_1548 q_1550 q_58 rfl e_M rfl ⟨rfl, rfl⟩ ⟨Nat.le_of_ble_eq_true rfl, Nat.le_of_ble_eq_true rfl⟩ rfl rfl (Nat.le_of_ble_eq_true rfl) ⟨Nat.zero_le _, Nat.zero_le _⟩ h (fun u_11 h => ?_)
              refine y_if_ne cx d_X12_readLine_101 104 rfl 106 (by decide) rfl h (fun h => ?_) (fun h => ?_)
              · refine z_aload_n cx d_X12_readLine_106 107 rfl rfl 3 rfl ?_
                refine z_get cx d_X12_readLine_107 110 rfl e_M rfl zX12 13 (by decide) q_1374 rfl rfl ?_
                refine y_iconst cx d_X12_readLine_110 111 rfl ?_
                refine z_iload_n cx d_X12_readLine_111 112 rfl rfl 2 rfl ?_
                refine y_iadd cx d_X12_readLine_112 113 rfl ?_
                refine z_iload_n cx d_X12_readLine_113 114 rfl rfl 1 rfl ?_
                refine y_iast cx d_X12_readLine_114 115 rfl e_M_read (by decide) h (fun _ h9 => s_M_read h9) (fun M_12 h => ?_)
                refine z_aload_n cx d_X12_readLine_115 116 rfl rfl 3 rfl ?_
                refine z_get cx d_X12_readLine_116 119 rfl e_M rfl zX12 13 (by decide) q_1374 rfl rfl ?_
                refine y_bipush cx d_X12_readLine_119 121 rfl (by decide) ?_
                refine z_iload_n cx d_X12_readLine_121 122 rfl rfl 2 rfl ?_
                refine y_iadd cx d_X12_readLine_122 123 rfl ?_
                refine z_iload_n cx d_X12_readLine_123 124 rfl rfl 0 rfl ?_
                refine y_iast cx d_X12_readLine_124 125 rfl e_M_read (by decide) h (fun _ h9 => s_M_read h9) (fun M_13 h => ?_)
                refine z_aload_n cx d_X12_readLine_125 126 rfl rfl 3 rfl ?_
                refine z_get cx d_X12_readLine_126 129 rfl e_M rfl zX12 13 (by decide) q_1374 rfl rfl ?_
                refine y_bipush cx d_X12_readLine_129 131 rfl (by decide) ?_
                refine z_iload_n cx d_X12_readLine_131 132 rfl rfl 2 rfl ?_
                refine y_iadd cx d_X12_readLine_132 133 rfl ?_
                refine z_aload_n cx d_X12_readLine_133 134 rfl rfl 3 rfl ?_
                refine z_get cx d_X12_readLine_134 137 rfl e_M rfl zX12 11 (by decide) q_1372 rfl rfl ?_
                refine y_iast cx d_X12_readLine_137 138 rfl e_M_read (by decide) h (fun _ h9 => s_M_read h9) (fun M_14 h => ?_)
                refine z_aload_n cx d_X12_readLine_138 139 rfl rfl 3 rfl ?_
                refine z_get cx d_X12_readLine_139 142 rfl e_M rfl zX12 13 (by decide) q_1374 rfl rfl ?_
                refine y_bipush cx d_X12_readLine_142 144 rfl (by decide) ?_
                refine z_iload_n cx d_X12_readLine_144 145 rfl rfl 2 rfl ?_
                refine y_iadd cx d_X12_readLine_145 146 rfl ?_
                refine y_iconst cx d_X12_readLine_146 147 rfl ?_
                refine y_iast cx d_X12_readLine_147 148 rfl e_M_read (by decide) h (fun _ h9 => s_M_read h9) (fun M_15 h => ?_)
                refine z_aload_n cx d_X12_readLine_148 149 rfl rfl 3 rfl ?_
                refine z_get cx d_X12_readLine_149 152 rfl e_M rfl zX12 13 (by decide) q_1374 rfl rfl ?_
                refine y_iconst cx d_X12_readLine_152 153 rfl ?_
                refine z_dup2 cx d_X12_readLine_153 154 rfl rfl rfl ?_
                refine y_ialdx cx d_X12_readLine_154 155 rfl e_M_read (by decide) h (fun x_16 h => ?_)
                refine y_iconst cx d_X12_readLine_155 156 rfl ?_
                refine y_iadd cx d_X12_readLine_156 157 rfl ?_
                refine y_iast cx d_X12_readLine_157 158 rfl e_M_read (by decide) h (fun _ h9 => s_M_read h9) (fun M_17 h => ?_)
                refine y_iconst cx d_X12_readLine_158 159 rfl ?_
                subst hQ
                obtain rfl := Option.some.inj h
                exact z_zret cx d_X12_readLine_159 (zb01 (by decide)) rfl rfl
              · refine y_iconst cx d_X12_readLine_104 105 rfl ?_
                subst hQ
                obtain rfl := Option.some.inj h
                exact z_zret cx d_X12_readLine_105 (zb01 (by decide)) rfl rfl
            · refine z_sub [3] rfl ?_
              exact hk_8  h
        · refine z_aload_n cx d_X12_readLine_63 64 rfl rfl 2 rfl ?_
          refine y_iconst cx d_X12_readLine_64 65 rfl ?_
          refine y_callV_i (As := [.int (zI 1)]) (rest := []) (W := fun u_18 => wM g u_18.2) (rf := fun u_18 => zI u_18.1) (rm := zr0) cx (fun _ hq => tM_bad hq) d_X12_readLine_65 68 rfl kk_X12_bad q_1524 q_1526 q_52 rfl e_M rfl ⟨rfl, rfl⟩ ⟨Nat.le_of_ble_eq_true rfl, Nat.le_of_ble_eq_true rfl⟩ rfl rfl (Nat.le_of_ble_eq_true rfl) ⟨Nat.zero_le _, Nat.zero_le _⟩ h (fun u_18 h => ?_)
          obtain ⟨hz, h⟩ := zo_i h
          subst hQ
          obtain rfl := Option.some.inj h
          exact z_zret cx d_X12_readLine_68 (zb01 hz) rfl rfl
      · refine z_aload_n cx d_X12_readLine_46 47 rfl rfl 2 rfl ?_
        refine y_iconst cx d_X12_readLine_47 48 rfl ?_
        refine y_callV_i (As := [.int (zI 3)]) (rest := []) (W := fun u_19 => wM g u_19.2) (rf := fun u_19 => zI u_19.1) (rm := zr0) cx (fun _ hq => tM_bad hq) d_X12_readLine_48 51 rfl kk_X12_bad q_1524 q_1526 q_52 rfl e_M rfl ⟨rfl, rfl⟩ ⟨Nat.le_of_ble_eq_true rfl, Nat.le_of_ble_eq_true rfl⟩ rfl rfl (Nat.le_of_ble_eq_true rfl) ⟨Nat.zero_le _, Nat.zero_le _⟩ h (fun u_19 h => ?_)
        obtain ⟨hz, h⟩ := zo_i h
        subst hQ
        obtain rfl := Option.some.inj h
        exact z_zret cx d_X12_readLine_51 (zb01 hz) rfl rfl
    · refine z_aload_n cx d_X12_readLine_30 31 rfl rfl 1 rfl ?_
      refine y_iconst cx d_X12_readLine_31 32 rfl ?_
      refine y_callV_i (As := [.int (zI 1)]) (rest := []) (W := fun u_20 => wM g u_20.2) (rf := fun u_20 => zI u_20.1) (rm := zr0) cx (fun _ hq => tM_bad hq) d_X12_readLine_32 35 rfl kk_X12_bad q_1524 q_1526 q_52 rfl e_M rfl ⟨rfl, rfl⟩ ⟨Nat.le_of_ble_eq_true rfl, Nat.le_of_ble_eq_true rfl⟩ rfl rfl (Nat.le_of_ble_eq_true rfl) ⟨Nat.zero_le _, Nat.zero_le _⟩ h (fun u_20 h => ?_)
      obtain ⟨hz, h⟩ := zo_i h
      subst hQ
      obtain rfl := Option.some.inj h
      exact z_zret cx d_X12_readLine_35 (zb01 hz) rfl rfl
  · refine z_aload_n cx d_X12_readLine_13 14 rfl rfl 1 rfl ?_
    refine y_iconst cx d_X12_readLine_14 15 rfl ?_
    refine y_callV_i (As := [.int (zI 4)]) (rest := []) (W := fun u_21 => wM g u_21.2) (rf := fun u_21 => zI u_21.1) (rm := zr0) cx (fun _ hq => tM_bad hq) d_X12_readLine_15 18 rfl kk_X12_bad q_1524 q_1526 q_52 rfl e_M rfl ⟨rfl, rfl⟩ ⟨Nat.le_of_ble_eq_true rfl, Nat.le_of_ble_eq_true rfl⟩ rfl rfl (Nat.le_of_ble_eq_true rfl) ⟨Nat.zero_le _, Nat.zero_le _⟩ h (fun u_21 h => ?_)
    obtain ⟨hz, h⟩ := zo_i h
    subst hQ
    obtain rfl := Option.some.inj h
    exact z_zret cx d_X12_readLine_18 (zb01 hz) rfl rfl
def zrM_readPoint : Room := { frames := 3, cells := 0, slots := 0, locals := 68 }
set_option maxHeartbeats 4000000 in
theorem tM_readPoint {l : Launch} {g : ZG} {M : ZB}  {r : Int × ZB} (h : fM_readPoint M = some r) : zMi l yX12_readPoint cX12_readPoint 1 (some .boolean) zrM_readPoint g [.ref (g.2.2 0)] (wM g M) (wM g r.2) (zI r.1) := by
  unfold fM_readPoint at h
  refine zMi_q (own := RX12) rfl (by decide +kernel) (Nat.le_of_ble_eq_true rfl) (lv := [(0, .ref (g.2.2 0))]) rfl ⟨rfl, rfl⟩ ?_
  intro p e s m args below meth c A Q hQ cx
  refine z_aload_n cx d_X12_readPoint_0 1 rfl rfl 0 rfl ?_
  refine z_get cx d_X12_readPoint_1 4 rfl e_M rfl zX12 13 (by decide) q_1374 rfl rfl ?_
  refine y_iconst cx d_X12_readPoint_4 5 rfl ?_
  refine y_ialdx cx d_X12_readPoint_5 6 rfl e_M_read (by decide) h (fun x_1 h => ?_)
  refine y_bipush cx d_X12_readPoint_6 8 rfl (by decide) ?_
  refine y_icmp_ne cx d_X12_readPoint_8 11 rfl 17 (by decide) rfl (nm_eq (x := 10) (by decide) (by decide)) h (fun h => ?_) (fun h => ?_)
  · refine z_aload_n cx d_X12_readPoint_17 18 rfl rfl 0 rfl ?_
    refine y_callV_v (As := []) (rest := []) (W := fun u_2 => wM g u_2) (rm := zrM_go) cx (fun _ hq => tM_go hq) d_X12_readPoint_18 21 rfl kk_X12_go q_1493 q_1495 q_47 rfl e_M rfl ⟨rfl, rfl⟩ ⟨Nat.le_of_ble_eq_true rfl, Nat.le_of_ble_eq_true rfl⟩ rfl rfl (Nat.le_of_ble_eq_true rfl) ⟨Nat.zero_le _, Nat.zero_le _⟩ h (fun u_2 h => ?_)
    refine z_aload_n cx d_X12_readPoint_21 22 rfl rfl 0 rfl ?_
    refine y_callV_i (As := []) (rest := []) (W := fun u_3 => wM g u_2) (rf := fun u_3 => zI u_3) (rm := zrM_isName) cx (fun _ hq => tM_isName hq) d_X12_readPoint_22 25 rfl kk_X12_isName q_1528 q_1530 q_53 rfl e_M rfl ⟨rfl, rfl⟩ ⟨Nat.le_of_ble_eq_true rfl, Nat.le_of_ble_eq_true rfl⟩ rfl rfl (Nat.le_of_ble_eq_true rfl) ⟨Nat.zero_le _, Nat.zero_le _⟩ h (fun u_3 h => ?_)
    refine y_if_ne cx d_X12_readPoint_25 28 rfl 34 (by decide) rfl h (fun h => ?_) (fun h => ?_)
    · refine z_aload_n cx d_X12_readPoint_34 35 rfl rfl 0 rfl ?_
      refine y_callV_i (As := []) (rest := []) (W := fun u_4 => wM g u_2) (rf := fun u_4 => zI u_4) (rm := zr0) cx (fun _ hq => tM_named hq) d_X12_readPoint_35 38 rfl kk_X12_named q_1540 q_1542 q_56 rfl e_M rfl ⟨rfl, rfl⟩ ⟨Nat.le_of_ble_eq_true rfl, Nat.le_of_ble_eq_true rfl⟩ rfl rfl (Nat.le_of_ble_eq_true rfl) ⟨Nat.zero_le _, Nat.zero_le _⟩ h (fun u_4 h => ?_)
      refine y_iconst cx d_X12_readPoint_38 39 rfl ?_
      refine y_icmp_eq cx d_X12_readPoint_39 42 rfl 48 (by decide) rfl (nm_eq (x := (-1)) (by decide) (by decide)) h (fun h => ?_) (fun h => ?_)
      · refine z_aload_n cx d_X12_readPoint_48 49 rfl rfl 0 rfl ?_
        refine z_get cx d_X12_readPoint_49 52 rfl e_M rfl zX12 18 (by decide) q_1379 rfl rfl ?_
        refine z_aload_n cx d_X12_readPoint_52 53 rfl rfl 0 rfl ?_
        refine z_get cx d_X12_readPoint_53 56 rfl e_M rfl zX12 13 (by decide) q_1374 rfl rfl ?_
        refine y_iconst cx d_X12_readPoint_56 57 rfl ?_
        refine y_ialdx cx d_X12_readPoint_57 58 rfl e_M_read (by decide) h (fun x_5 h => ?_)
        refine z_aload_n cx d_X12_readPoint_58 59 rfl rfl 0 rfl ?_
        refine z_get cx d_X12_readPoint_59 62 rfl e_M rfl zX12 10 (by decide) q_1371 rfl rfl ?_
        refine y_last cx d_X12_readPoint_62 63 rfl e_M_names (by decide) h (fun _ h9 => s_M_names h9) (fun M_6 h => ?_)
        refine z_aload_n cx d_X12_readPoint_63 64 rfl rfl 0 rfl ?_
        refine z_get cx d_X12_readPoint_64 67 rfl e_M rfl zX12 13 (by decide) q_1374 rfl rfl ?_
        refine y_iconst cx d_X12_readPoint_67 68 rfl ?_
        refine z_dup2 cx d_X12_readPoint_68 69 rfl rfl rfl ?_
        refine y_ialdx cx d_X12_readPoint_69 70 rfl e_M_read (by decide) h (fun x_7 h => ?_)
        refine y_iconst cx d_X12_readPoint_70 71 rfl ?_
        refine y_iadd cx d_X12_readPoint_71 72 rfl ?_
        refine y_iast cx d_X12_readPoint_72 73 rfl e_M_read (by decide) h (fun _ h9 => s_M_read h9) (fun M_8 h => ?_)
        refine z_aload_n cx d_X12_readPoint_73 74 rfl rfl 0 rfl ?_
        refine y_callV_v (As := []) (rest := []) (W := fun u_9 => wM g u_9) (rm := zrM_go) cx (fun _ hq => tM_go hq) d_X12_readPoint_74 77 rfl kk_X12_go q_1493 q_1495 q_47 rfl e_M rfl ⟨rfl, rfl⟩ ⟨Nat.le_of_ble_eq_true rfl, Nat.le_of_ble_eq_true rfl⟩ rfl rfl (Nat.le_of_ble_eq_true rfl) ⟨Nat.zero_le _, Nat.zero_le _⟩ h (fun u_9 h => ?_)
        refine y_iconst cx d_X12_readPoint_77 78 rfl ?_
        subst hQ
        obtain rfl := Option.some.inj h
        exact z_zret cx d_X12_readPoint_78 (zb01 (by decide)) rfl rfl
      · refine z_aload_n cx d_X12_readPoint_42 43 rfl rfl 0 rfl ?_
        refine y_iconst cx d_X12_readPoint_43 44 rfl ?_
        refine y_callV_i (As := [.int (zI 3)]) (rest := []) (W := fun u_10 => wM g u_10.2) (rf := fun u_10 => zI u_10.1) (rm := zr0) cx (fun _ hq => tM_bad hq) d_X12_readPoint_44 47 rfl kk_X12_bad q_1524 q_1526 q_52 rfl e_M rfl ⟨rfl, rfl⟩ ⟨Nat.le_of_ble_eq_true rfl, Nat.le_of_ble_eq_true rfl⟩ rfl rfl (Nat.le_of_ble_eq_true rfl) ⟨Nat.zero_le _, Nat.zero_le _⟩ h (fun u_10 h => ?_)
        obtain ⟨hz, h⟩ := zo_i h
        subst hQ
        obtain rfl := Option.some.inj h
        exact z_zret cx d_X12_readPoint_47 (zb01 hz) rfl rfl
    · refine z_aload_n cx d_X12_readPoint_28 29 rfl rfl 0 rfl ?_
      refine y_iconst cx d_X12_readPoint_29 30 rfl ?_
      refine y_callV_i (As := [.int (zI 1)]) (rest := []) (W := fun u_11 => wM g u_11.2) (rf := fun u_11 => zI u_11.1) (rm := zr0) cx (fun _ hq => tM_bad hq) d_X12_readPoint_30 33 rfl kk_X12_bad q_1524 q_1526 q_52 rfl e_M rfl ⟨rfl, rfl⟩ ⟨Nat.le_of_ble_eq_true rfl, Nat.le_of_ble_eq_true rfl⟩ rfl rfl (Nat.le_of_ble_eq_true rfl) ⟨Nat.zero_le _, Nat.zero_le _⟩ h (fun u_11 h => ?_)
      obtain ⟨hz, h⟩ := zo_i h
      subst hQ
      obtain rfl := Option.some.inj h
      exact z_zret cx d_X12_readPoint_33 (zb01 hz) rfl rfl
  · refine z_aload_n cx d_X12_readPoint_11 12 rfl rfl 0 rfl ?_
    refine y_iconst cx d_X12_readPoint_12 13 rfl ?_
    refine y_callV_i (As := [.int (zI 4)]) (rest := []) (W := fun u_12 => wM g u_12.2) (rf := fun u_12 => zI u_12.1) (rm := zr0) cx (fun _ hq => tM_bad hq) d_X12_readPoint_13 16 rfl kk_X12_bad q_1524 q_1526 q_52 rfl e_M rfl ⟨rfl, rfl⟩ ⟨Nat.le_of_ble_eq_true rfl, Nat.le_of_ble_eq_true rfl⟩ rfl rfl (Nat.le_of_ble_eq_true rfl) ⟨Nat.zero_le _, Nat.zero_le _⟩ h (fun u_12 h => ?_)
    obtain ⟨hz, h⟩ := zo_i h
    subst hQ
    obtain rfl := Option.some.inj h
    exact z_zret cx d_X12_readPoint_16 (zb01 hz) rfl rfl
def zrM_readEnd : Room := { frames := 2, cells := 0, slots := 0, locals := 45 }
set_option maxHeartbeats 4000000 in
theorem tM_readEnd {l : Launch} {g : ZG} {M : ZB}  {r : Int × ZB} (h : fM_readEnd M = some r) : zMi l yX12_readEnd cX12_readEnd 1 (some .boolean) zrM_readEnd g [.ref (g.2.2 0)] (wM g M) (wM g r.2) (zI r.1) := by
  unfold fM_readEnd at h
  refine zMi_q (own := RX12) rfl (by decide +kernel) (Nat.le_of_ble_eq_true rfl) (lv := [(0, .ref (g.2.2 0))]) rfl ⟨rfl, rfl⟩ ?_
  intro p e s m args below meth c A Q hQ cx
  refine z_aload_n cx d_X12_readEnd_0 1 rfl rfl 0 rfl ?_
  refine z_get cx d_X12_readEnd_1 4 rfl e_M rfl zX12 6 (by decide) q_1367 rfl rfl ?_
  refine y_iconst cx d_X12_readEnd_4 5 rfl ?_
  refine y_icmp_eq cx d_X12_readEnd_5 8 rfl 14 (by decide) rfl (nm_eq (x := 4) (by decide) (by decide)) h (fun h => ?_) (fun h => ?_)
  · refine z_aload_n cx d_X12_readEnd_14 15 rfl rfl 0 rfl ?_
    refine y_callV_v (As := []) (rest := []) (W := fun u_1 => wM g u_1) (rm := zrM_go) cx (fun _ hq => tM_go hq) d_X12_readEnd_15 18 rfl kk_X12_go q_1493 q_1495 q_47 rfl e_M rfl ⟨rfl, rfl⟩ ⟨Nat.le_of_ble_eq_true rfl, Nat.le_of_ble_eq_true rfl⟩ rfl rfl (Nat.le_of_ble_eq_true rfl) ⟨Nat.zero_le _, Nat.zero_le _⟩ h (fun u_1 h => ?_)
    refine y_iconst cx d_X12_readEnd_18 19 rfl ?_
    subst hQ
    obtain rfl := Option.some.inj h
    exact z_zret cx d_X12_readEnd_19 (zb01 (by decide)) rfl rfl
  · refine z_aload_n cx d_X12_readEnd_8 9 rfl rfl 0 rfl ?_
    refine y_iconst cx d_X12_readEnd_9 10 rfl ?_
    refine y_callV_i (As := [.int (zI 1)]) (rest := []) (W := fun u_2 => wM g u_2.2) (rf := fun u_2 => zI u_2.1) (rm := zr0) cx (fun _ hq => tM_bad hq) d_X12_readEnd_10 13 rfl kk_X12_bad q_1524 q_1526 q_52 rfl e_M rfl ⟨rfl, rfl⟩ ⟨Nat.le_of_ble_eq_true rfl, Nat.le_of_ble_eq_true rfl⟩ rfl rfl (Nat.le_of_ble_eq_true rfl) ⟨Nat.zero_le _, Nat.zero_le _⟩ h (fun u_2 h => ?_)
    obtain ⟨hz, h⟩ := zo_i h
    subst hQ
    obtain rfl := Option.some.inj h
    exact z_zret cx d_X12_readEnd_13 (zb01 hz) rfl rfl
def zrM_net : Room := { frames := 4, cells := 0, slots := 0, locals := 91 }
set_option maxHeartbeats 4000000 in
theorem tM_net {l : Launch} {g : ZG} {M : ZB}  {r : Int × ZB} (h : fM_net M = some r) : zMi l yX12_net cX12_net 3 (some .int) zrM_net g [.ref (g.2.2 0)] (wM g M) (wM g r.2) (zI r.1) := by
  unfold fM_net at h
  refine zMi_q (own := RX12) rfl (by decide +kernel) (Nat.le_of_ble_eq_true rfl) (lv := [(0, .ref (g.2.2 0))]) rfl ⟨rfl, rfl⟩ ?_
  intro p e s m args below meth c A Q hQ cx
  refine z_aload_n cx d_X12_net_0 1 rfl rfl 0 rfl ?_
  refine y_iconst cx d_X12_net_1 2 rfl ?_
  refine y_put cx d_X12_net_2 5 rfl e_M rfl zX12 tyX12_ok nmX12 0 (by decide) q_1361 rfl rfl rfl rfl (Nat.le_of_ble_eq_true rfl) h (fun _ h9 => s_M_0 h9) (fun M_1 h => ?_)
  refine z_aload_n cx d_X12_net_5 6 rfl rfl 0 rfl ?_
  refine z_aload_n cx d_X12_net_6 7 rfl rfl 0 rfl ?_
  refine z_get cx d_X12_net_7 10 rfl e_M rfl zX12 2 (by decide) q_1363 rfl rfl ?_
  refine y_put cx d_X12_net_10 13 rfl e_M rfl zX12 tyX12_ok nmX12 3 (by decide) q_1364 rfl rfl rfl rfl (Nat.le_of_ble_eq_true rfl) h (fun _ h9 => s_M_3 h9) (fun M_2 h => ?_)
  refine z_aload_n cx d_X12_net_13 14 rfl rfl 0 rfl ?_
  refine y_iconst cx d_X12_net_14 15 rfl ?_
  refine y_put cx d_X12_net_15 18 rfl e_M rfl zX12 tyX12_ok nmX12 2 (by decide) q_1363 rfl rfl rfl rfl (Nat.le_of_ble_eq_true rfl) h (fun _ h9 => s_M_2 h9) (fun M_3 h => ?_)
  refine z_aload_n cx d_X12_net_18 19 rfl rfl 0 rfl ?_
  refine y_iconst cx d_X12_net_19 20 rfl ?_
  refine y_put cx d_X12_net_20 23 rfl e_M rfl zX12 tyX12_ok nmX12 8 (by decide) q_1369 rfl rfl rfl rfl (Nat.le_of_ble_eq_true rfl) h (fun _ h9 => s_M_8 h9) (fun M_4 h => ?_)
  refine z_aload_n cx d_X12_net_23 24 rfl rfl 0 rfl ?_
  refine y_iconst cx d_X12_net_24 25 rfl ?_
  refine y_put cx d_X12_net_25 28 rfl e_M rfl zX12 tyX12_ok nmX12 4 (by decide) q_1365 rfl rfl rfl rfl (Nat.le_of_ble_eq_true rfl) h (fun _ h9 => s_M_4 h9) (fun M_5 h => ?_)
  refine y_iconst cx d_X12_net_28 29 rfl ?_
  refine y_istore_n cx d_X12_net_29 30 rfl rfl (by decide) (lv' := [(1, .int (zI 0)), (0, .ref (g.2.2 0))]) rfl ?_
  refine z_sub [1, 0] rfl ?_
  refine lop2_f (P := fun (v1_6 : Int) (M_7 : ZB) => V p l e zrM_net s m args below meth c A s.heap g 3 Q (wM g M_7) 0 0 [(0, .ref (g.2.2 0)), (1, .int (zI v1_6))] 30 []) (fun rec_8 hrec_8 v1_6 M_7 h => ?_) _ _ _ h
  refine z_iload_n cx d_X12_net_30 31 rfl rfl 1 rfl ?_
  refine y_sipush cx d_X12_net_31 34 rfl (by decide) ?_
  refine y_icmp_ge cx d_X12_net_34 37 rfl 50 (by decide) rfl (nm_eq (x := 147) (by decide) (by decide)) h (fun h => ?_) (fun h => ?_)
  · refine y_iconst cx d_X12_net_50 51 rfl ?_
    refine y_istore_n cx d_X12_net_51 52 rfl rfl (by decide) (lv' := [(1, .int (zI 0)), (0, .ref (g.2.2 0))]) rfl ?_
    refine z_aload_n cx d_X12_net_52 53 rfl rfl 1 rfl ?_
    refine y_callV_v (As := []) (rest := []) (W := fun u_9 => wM g u_9) (rm := zrM_go) cx (fun _ hq => tM_go hq) d_X12_net_53 56 rfl kk_X12_go q_1493 q_1495 q_47 rfl e_M rfl ⟨rfl, rfl⟩ ⟨Nat.le_of_ble_eq_true rfl, Nat.le_of_ble_eq_true rfl⟩ rfl rfl (Nat.le_of_ble_eq_true rfl) ⟨Nat.zero_le _, Nat.zero_le _⟩ h (fun u_9 h => ?_)
    refine z_sub [1, 0] rfl ?_
    refine lop2_f (P := fun (v1_10 : Int) (M_11 : ZB) => V p l e zrM_net s m args below meth c A s.heap g 3 Q (wM g M_11) 0 0 [(0, .ref (g.2.2 0)), (1, .int (zI v1_10))] 56 []) (fun rec_12 hrec_12 v1_10 M_11 h => ?_) _ _ _ h
    refine z_aload_n cx d_X12_net_56 57 rfl rfl 0 rfl ?_
    refine z_get cx d_X12_net_57 60 rfl e_M rfl zX12 6 (by decide) q_1367 rfl rfl ?_
    refine y_if_eq cx d_X12_net_60 63 rfl 135 (by decide) rfl h (fun h => ?_) (fun h => ?_)
    · refine z_aload_n cx d_X12_net_135 136 rfl rfl 0 rfl ?_
      refine z_get cx d_X12_net_136 139 rfl e_M rfl zX12 13 (by decide) q_1374 rfl rfl ?_
      refine y_iconst cx d_X12_net_139 140 rfl ?_
      refine y_ialdx cx d_X12_net_140 141 rfl e_M_read (by decide) h (fun x_13 h => ?_)
      refine kf1_f (P := fun (M_14 : ZB) => V p l e zrM_net s m args below meth c A s.heap g 3 Q (wM g M_14) 0 0 [(0, .ref (g.2.2 0)), (1, .int (zI v1_10))] 151 []) h (fun M_14 h => ?_) (fun k_15 hk_15 h => ?_)
      · refine z_aload_n cx d_X12_net_151 152 rfl rfl 0 rfl ?_
        refine z_get cx d_X12_net_152 155 rfl e_M rfl zX12 13 (by decide) q_1374 rfl rfl ?_
        refine y_iconst cx d_X12_net_155 156 rfl ?_
        refine z_aload_n cx d_X12_net_156 157 rfl rfl 0 rfl ?_
        refine z_get cx d_X12_net_157 160 rfl e_M rfl zX12 12 (by decide) q_1373 rfl rfl ?_
        refine y_iconst cx d_X12_net_160 161 rfl ?_
        refine y_callS_v (As := [.ref (g.2.2 3), .int (zI 0), .ref (g.2.2 2), .int (zI 0)]) (rest := []) (W := fun u_16 => wM g u_16) (rm := zr0) cx (fun _ hq => tM_copy_read_now hq) d_X12_net_161 164 rfl kk_X12_copy q_1563 q_1564 ⟨rfl, rfl⟩ ⟨Nat.le_of_ble_eq_true rfl, Nat.le_of_ble_eq_true rfl⟩ rfl rfl (Nat.le_of_ble_eq_true rfl) ⟨Nat.zero_le _, Nat.zero_le _⟩ h (fun u_16 h => ?_)
        refine z_aload_n cx d_X12_net_164 165 rfl rfl 0 rfl ?_
        refine y_iconst cx d_X12_net_165 166 rfl ?_
        refine y_put cx d_X12_net_166 169 rfl e_M rfl zX12 tyX12_ok nmX12 20 (by decide) q_1381 rfl rfl rfl rfl (Nat.le_of_ble_eq_true rfl) h (fun _ h9 => s_M_20 h9) (fun M_17 h => ?_)
        refine z_iload_n cx d_X12_net_169 170 rfl rfl 1 rfl ?_
        subst hQ
        obtain rfl := Option.some.inj h
        exact z_iret cx d_X12_net_170 rfl rfl
      refine y_if_ne cx d_X12_net_141 144 rfl 151 (by decide) rfl h (fun h => ?_) (fun h => ?_)
      · exact hk_15 _ h
      · refine z_aload_n cx d_X12_net_144 145 rfl rfl 0 rfl ?_
        refine z_get cx d_X12_net_145 148 rfl e_M rfl zX12 13 (by decide) q_1374 rfl rfl ?_
        refine y_iconst cx d_X12_net_148 149 rfl ?_
        refine y_iconst cx d_X12_net_149 150 rfl ?_
        refine y_iast cx d_X12_net_150 151 rfl e_M_read (by decide) h (fun _ h9 => s_M_read h9) (fun M_18 h => ?_)
        exact hk_15 _ h
    · refine z_aload_n cx d_X12_net_63 64 rfl rfl 0 rfl ?_
      refine y_callV_i (As := []) (rest := []) (W := fun u_19 => wM g M_11) (rf := fun u_19 => zI u_19) (rm := zrM_isPointWord) cx (fun _ hq => tM_isPointWord hq) d_X12_net_64 67 rfl kk_X12_isPointWord q_1509 q_1511 q_49 rfl e_M rfl ⟨rfl, rfl⟩ ⟨Nat.le_of_ble_eq_true rfl, Nat.le_of_ble_eq_true rfl⟩ rfl rfl (Nat.le_of_ble_eq_true rfl) ⟨Nat.zero_le _, Nat.zero_le _⟩ h (fun u_19 h => ?_)
      refine kf2_f (P := fun (w0_20 : Int) (M_21 : ZB) => V p l e zrM_net s m args below meth c A s.heap g 3 Q (wM g M_21) 0 0 [(0, .ref (g.2.2 0)), (1, .int (zI v1_10))] 110 [.int (zI w0_20)]) h (fun w0_20 M_21 h => ?_) (fun k_22 hk_22 h => ?_)
      · refine y_istore_n cx d_X12_net_110 111 rfl rfl (by decide) (lv' := [(2, .int (zI w0_20)), (0, .ref (g.2.2 0)), (1, .int (zI v1_10))]) rfl ?_
        refine z_iload_n cx d_X12_net_111 112 rfl rfl 0 rfl ?_
        refine kf1_f (P := fun (M_23 : ZB) => V p l e zrM_net s m args below meth c A s.heap g 3 Q (wM g M_23) 0 0 [(0, .ref (g.2.2 0))] 122 []) h (fun M_23 h => ?_) (fun k_24 hk_24 h => ?_)
        · refine y_iconst cx d_X12_net_122 123 rfl ?_
          refine z_aload_n cx d_X12_net_123 124 rfl rfl 0 rfl ?_
          refine z_get cx d_X12_net_124 127 rfl e_M rfl zX12 9 (by decide) q_1370 rfl rfl ?_
          refine y_isub cx d_X12_net_127 128 rfl ?_
          subst hQ
          obtain rfl := Option.some.inj h
          exact z_iret cx d_X12_net_128 rfl rfl
        refine y_if_eq cx d_X12_net_112 115 rfl 122 (by decide) rfl h (fun h => ?_) (fun h => ?_)
        · refine z_sub [1] rfl ?_
          exact hk_24 _ h
        · refine z_aload_n cx d_X12_net_115 116 rfl rfl 1 rfl ?_
          refine y_callV_i (As := []) (rest := []) (W := fun u_25 => wM g u_25.2) (rf := fun u_25 => zI u_25.1) (rm := zrM_readEnd) cx (fun _ hq => tM_readEnd hq) d_X12_net_116 119 rfl kk_X12_readEnd q_1559 q_1561 q_60 rfl e_M rfl ⟨rfl, rfl⟩ ⟨Nat.le_of_ble_eq_true rfl, Nat.le_of_ble_eq_true rfl⟩ rfl rfl (Nat.le_of_ble_eq_true rfl) ⟨Nat.zero_le _, Nat.zero_le _⟩ h (fun u_25 h => ?_)
          refine y_if_ne cx d_X12_net_119 122 rfl 129 (by decide) rfl h (fun h => ?_) (fun h => ?_)
          · refine y_iinc cx 2 d_X12_net_129 132 rfl rfl (by decide) (lv' := [(1, .int (zI (v1_10 + 1))), (2, .int (zI w0_20)), (0, .ref (g.2.2 0))]) rfl ?_
            refine z_goto cx d_X12_net_132 56 (by decide) ?_
            refine z_sub [2, 0] rfl ?_
            exact hrec_12 _ _ h
          · refine z_sub [1] rfl ?_
            exact hk_24 _ h
      refine y_if_eq cx d_X12_net_67 70 rfl 77 (by decide) rfl h (fun h => ?_) (fun h => ?_)
      · refine z_aload_n cx d_X12_net_77 78 rfl rfl 0 rfl ?_
        refine y_callV_i (As := []) (rest := []) (W := fun u_26 => wM g M_11) (rf := fun u_26 => zI u_26) (rm := zrM_isLineWord) cx (fun _ hq => tM_isLineWord hq) d_X12_net_78 81 rfl kk_X12_isLineWord q_1532 q_1534 q_54 rfl e_M rfl ⟨rfl, rfl⟩ ⟨Nat.le_of_ble_eq_true rfl, Nat.le_of_ble_eq_true rfl⟩ rfl rfl (Nat.le_of_ble_eq_true rfl) ⟨Nat.zero_le _, Nat.zero_le _⟩ h (fun u_26 h => ?_)
        refine y_if_eq cx d_X12_net_81 84 rfl 91 (by decide) rfl h (fun h => ?_) (fun h => ?_)
        · refine z_aload_n cx d_X12_net_91 92 rfl rfl 0 rfl ?_
          refine y_callV_i (As := []) (rest := []) (W := fun u_27 => wM g M_11) (rf := fun u_27 => zI u_27) (rm := zrM_isForestsWord) cx (fun _ hq => tM_isForestsWord hq) d_X12_net_92 95 rfl kk_X12_isForestsWord q_1536 q_1538 q_55 rfl e_M rfl ⟨rfl, rfl⟩ ⟨Nat.le_of_ble_eq_true rfl, Nat.le_of_ble_eq_true rfl⟩ rfl rfl (Nat.le_of_ble_eq_true rfl) ⟨Nat.zero_le _, Nat.zero_le _⟩ h (fun u_27 h => ?_)
          refine y_if_eq cx d_X12_net_95 98 rfl 105 (by decide) rfl h (fun h => ?_) (fun h => ?_)
          · refine z_aload_n cx d_X12_net_105 106 rfl rfl 0 rfl ?_
            refine y_iconst cx d_X12_net_106 107 rfl ?_
            refine y_callV_i (As := [.int (zI 1)]) (rest := []) (W := fun u_28 => wM g u_28.2) (rf := fun u_28 => zI u_28.1) (rm := zr0) cx (fun _ hq => tM_bad hq) d_X12_net_107 110 rfl kk_X12_bad q_1524 q_1526 q_52 rfl e_M rfl ⟨rfl, rfl⟩ ⟨Nat.le_of_ble_eq_true rfl, Nat.le_of_ble_eq_true rfl⟩ rfl rfl (Nat.le_of_ble_eq_true rfl) ⟨Nat.zero_le _, Nat.zero_le _⟩ h (fun u_28 h => ?_)
            exact hk_22 _ _ h
          · refine z_aload_n cx d_X12_net_98 99 rfl rfl 0 rfl ?_
            refine y_callV_i (As := []) (rest := []) (W := fun u_29 => wM g u_29.2) (rf := fun u_29 => zI u_29.1) (rm := zrM_readForests) cx (fun _ hq => tM_readForests hq) d_X12_net_99 102 rfl kk_X12_readForests q_1555 q_1557 q_59 rfl e_M rfl ⟨rfl, rfl⟩ ⟨Nat.le_of_ble_eq_true rfl, Nat.le_of_ble_eq_true rfl⟩ rfl rfl (Nat.le_of_ble_eq_true rfl) ⟨Nat.zero_le _, Nat.zero_le _⟩ h (fun u_29 h => ?_)
            refine z_goto cx d_X12_net_102 110 (by decide) ?_
            exact hk_22 _ _ h
        · refine z_aload_n cx d_X12_net_84 85 rfl rfl 0 rfl ?_
          refine y_callV_i (As := []) (rest := []) (W := fun u_30 => wM g u_30.2) (rf := fun u_30 => zI u_30.1) (rm := zrM_readLine) cx (fun _ hq => tM_readLine hq) d_X12_net_85 88 rfl kk_X12_readLine q_1544 q_1546 q_57 rfl e_M rfl ⟨rfl, rfl⟩ ⟨Nat.le_of_ble_eq_true rfl, Nat.le_of_ble_eq_true rfl⟩ rfl rfl (Nat.le_of_ble_eq_true rfl) ⟨Nat.zero_le _, Nat.zero_le _⟩ h (fun u_30 h => ?_)
          refine z_goto cx d_X12_net_88 110 (by decide) ?_
          exact hk_22 _ _ h
      · refine z_aload_n cx d_X12_net_70 71 rfl rfl 0 rfl ?_
        refine y_callV_i (As := []) (rest := []) (W := fun u_31 => wM g u_31.2) (rf := fun u_31 => zI u_31.1) (rm := zrM_readPoint) cx (fun _ hq => tM_readPoint hq) d_X12_net_71 74 rfl kk_X12_readPoint q_1520 q_1522 q_51 rfl e_M rfl ⟨rfl, rfl⟩ ⟨Nat.le_of_ble_eq_true rfl, Nat.le_of_ble_eq_true rfl⟩ rfl rfl (Nat.le_of_ble_eq_true rfl) ⟨Nat.zero_le _, Nat.zero_le _⟩ h (fun u_31 h => ?_)
        refine z_goto cx d_X12_net_74 110 (by decide) ?_
        exact hk_22 _ _ h
  · refine z_aload_n cx d_X12_net_37 38 rfl rfl 0 rfl ?_
    refine z_get cx d_X12_net_38 41 rfl e_M rfl zX12 13 (by decide) q_1374 rfl rfl ?_
    refine z_iload_n cx d_X12_net_41 42 rfl rfl 1 rfl ?_
    refine y_iconst cx d_X12_net_42 43 rfl ?_
    refine y_iast cx d_X12_net_43 44 rfl e_M_read (by decide) h (fun _ h9 => s_M_read h9) (fun M_32 h => ?_)
    refine y_iinc cx 1 d_X12_net_44 47 rfl rfl (by decide) (lv' := [(1, .int (zI (v1_6 + 1))), (0, .ref (g.2.2 0))]) rfl ?_
    refine z_goto cx d_X12_net_47 30 (by decide) ?_
    refine z_sub [1, 0] rfl ?_
    exact hrec_8 _ _ h
set_option maxHeartbeats 4000000 in
theorem tM_fault {l : Launch} {g : ZG} {M : ZB}  {r : Int × ZB} (h : fM_fault M = some r) : zMi l yX12_fault cX12_fault 1 (some .int) zr0 g [.ref (g.2.2 0)] (wM g M) (wM g r.2) (zI r.1) := by
  unfold fM_fault at h
  refine zMi_q (own := RX12) rfl (by decide +kernel) (Nat.le_of_ble_eq_true rfl) (lv := [(0, .ref (g.2.2 0))]) rfl ⟨rfl, rfl⟩ ?_
  intro p e s m args below meth c A Q hQ cx
  refine z_aload_n cx d_X12_fault_0 1 rfl rfl 0 rfl ?_
  refine y_iconst cx d_X12_fault_1 2 rfl ?_
  refine y_put cx d_X12_fault_2 5 rfl e_M rfl zX12 tyX12_ok nmX12 0 (by decide) q_1361 rfl rfl rfl rfl (Nat.le_of_ble_eq_true rfl) h (fun _ h9 => s_M_0 h9) (fun M_1 h => ?_)
  refine z_aload_n cx d_X12_fault_5 6 rfl rfl 0 rfl ?_
  refine z_get cx d_X12_fault_6 9 rfl e_M rfl zX12 8 (by decide) q_1369 rfl rfl ?_
  subst hQ
  obtain rfl := Option.some.inj h
  exact z_iret cx d_X12_fault_9 rfl rfl
set_option maxHeartbeats 4000000 in
theorem tM_many {l : Launch} {g : ZG} {M : ZB}  {r : Int} (h : fM_many M = some r) : zMi l yX12_many cX12_many 1 (some .int) zr0 g [.ref (g.2.2 0)] (wM g M) (wM g M) (zI r) := by
  unfold fM_many at h
  refine zMi_q (own := RX12) rfl (by decide +kernel) (Nat.le_of_ble_eq_true rfl) (lv := [(0, .ref (g.2.2 0))]) rfl ⟨rfl, rfl⟩ ?_
  intro p e s m args below meth c A Q hQ cx
  refine z_aload_n cx d_X12_many_0 1 rfl rfl 0 rfl ?_
  refine z_get cx d_X12_many_1 4 rfl e_M rfl zX12 12 (by decide) q_1373 rfl rfl ?_
  refine y_iconst cx d_X12_many_4 5 rfl ?_
  refine y_ialdx cx d_X12_many_5 6 rfl e_M_now (by decide) h (fun x_1 h => ?_)
  subst hQ
  obtain rfl := Option.some.inj h
  exact z_iret cx d_X12_many_6 rfl rfl
set_option maxHeartbeats 4000000 in
theorem tM_copy_now_snaps {l : Launch} {g : ZG} {M : ZB} {a2 : Int} {a4 : Int} {r : ZB} (h : fM_copy_now_snaps M a2 a4 = some r) : zMv l yX12_copy cX12_copy 5 none zr0 g [.ref (g.2.2 2), .int (zI a2), .ref (g.2.2 5), .int (zI a4)] (wM g M) (wM g r) := by
  unfold fM_copy_now_snaps at h
  refine zMv_q (own := RX12) rfl (by decide +kernel) (Nat.le_of_ble_eq_true rfl) (lv := [(0, .ref (g.2.2 2)), (1, .int (zI a2)), (2, .ref (g.2.2 5)), (3, .int (zI a4))]) rfl ⟨rfl, rfl⟩ ?_
  intro p e s m args below meth c A Q hQ cx
  refine y_iconst cx d_X12_copy_0 1 rfl ?_
  refine y_istore cx d_X12_copy_1 3 rfl (by decide) (lv' := [(4, .int (zI 0)), (0, .ref (g.2.2 2)), (1, .int (zI a2)), (2, .ref (g.2.2 5)), (3, .int (zI a4))]) rfl ?_
  refine z_sub [1, 2, 3, 4, 0] rfl ?_
  refine lop2_f (P := fun (v4_1 : Int) (M_2 : ZB) => V p l e zr0 s m args below meth c A s.heap g 5 Q (wM g M_2) 0 0 [(0, .ref (g.2.2 2)), (1, .int (zI a2)), (2, .ref (g.2.2 5)), (3, .int (zI a4)), (4, .int (zI v4_1))] 3 []) (fun rec_3 hrec_3 v4_1 M_2 h => ?_) _ _ _ h
  refine z_iload cx d_X12_copy_3 5 rfl 4 rfl ?_
  refine y_sipush cx d_X12_copy_5 8 rfl (by decide) ?_
  refine y_icmp_ge cx d_X12_copy_8 11 rfl 29 (by decide) rfl (nm_eq (x := 147) (by decide) (by decide)) h (fun h => ?_) (fun h => ?_)
  · subst hQ
    obtain rfl := Option.some.inj h
    exact z_vret cx d_X12_copy_29 rfl
  · refine z_aload_n cx d_X12_copy_11 12 rfl rfl 2 rfl ?_
    refine z_iload_n cx d_X12_copy_12 13 rfl rfl 3 rfl ?_
    refine z_iload cx d_X12_copy_13 15 rfl 4 rfl ?_
    refine y_iadd cx d_X12_copy_15 16 rfl ?_
    refine z_aload_n cx d_X12_copy_16 17 rfl rfl 0 rfl ?_
    refine z_iload_n cx d_X12_copy_17 18 rfl rfl 1 rfl ?_
    refine z_iload cx d_X12_copy_18 20 rfl 4 rfl ?_
    refine y_iadd cx d_X12_copy_20 21 rfl ?_
    refine y_ialdx cx d_X12_copy_21 22 rfl e_M_now (by decide) h (fun x_4 h => ?_)
    refine y_iast cx d_X12_copy_22 23 rfl e_M_snaps (by decide) h (fun _ h9 => s_M_snaps h9) (fun M_5 h => ?_)
    refine y_iinc cx 4 d_X12_copy_23 26 rfl rfl (by decide) (lv' := [(4, .int (zI (v4_1 + 1))), (0, .ref (g.2.2 2)), (1, .int (zI a2)), (2, .ref (g.2.2 5)), (3, .int (zI a4))]) rfl ?_
    refine z_goto cx d_X12_copy_26 3 (by decide) ?_
    refine z_sub [1, 2, 3, 4, 0] rfl ?_
    exact hrec_3 _ _ h
def zrM_snap : Room := { frames := 1, cells := 0, slots := 0, locals := 24 }
set_option maxHeartbeats 4000000 in
theorem tM_snap {l : Launch} {g : ZG} {M : ZB}  {r : ZB} (h : fM_snap M = some r) : zMv l yX12_snap cX12_snap 2 none zrM_snap g [.ref (g.2.2 0)] (wM g M) (wM g r) := by
  unfold fM_snap at h
  refine zMv_q (own := RX12) rfl (by decide +kernel) (Nat.le_of_ble_eq_true rfl) (lv := [(0, .ref (g.2.2 0))]) rfl ⟨rfl, rfl⟩ ?_
  intro p e s m args below meth c A Q hQ cx
  refine z_aload_n cx d_X12_snap_0 1 rfl rfl 0 rfl ?_
  refine z_get cx d_X12_snap_1 4 rfl e_M rfl zX12 20 (by decide) q_1381 rfl rfl ?_
  refine y_bipush cx d_X12_snap_4 6 rfl (by decide) ?_
  refine kf1_f (P := fun (M_1 : ZB) => V p l e zrM_snap s m args below meth c A s.heap g 2 Q (wM g M_1) 0 0 [(0, .ref (g.2.2 0))] 50 []) h (fun M_1 h => ?_) (fun k_2 hk_2 h => ?_)
  · refine z_aload_n cx d_X12_snap_50 51 rfl rfl 0 rfl ?_
    refine z_get cx d_X12_snap_51 54 rfl e_M rfl zX12 12 (by decide) q_1373 rfl rfl ?_
    refine y_iconst cx d_X12_snap_54 55 rfl ?_
    refine z_aload_n cx d_X12_snap_55 56 rfl rfl 0 rfl ?_
    refine z_get cx d_X12_snap_56 59 rfl e_M rfl zX12 15 (by decide) q_1376 rfl rfl ?_
    refine y_sipush cx d_X12_snap_59 62 rfl (by decide) ?_
    refine z_aload_n cx d_X12_snap_62 63 rfl rfl 0 rfl ?_
    refine z_get cx d_X12_snap_63 66 rfl e_M rfl zX12 20 (by decide) q_1381 rfl rfl ?_
    refine y_imul cx d_X12_snap_66 67 rfl ?_
    refine y_callS_v (As := [.ref (g.2.2 2), .int (zI 0), .ref (g.2.2 5), .int (zI (147 * (M_1.1 20)))]) (rest := []) (W := fun u_3 => wM g u_3) (rm := zr0) cx (fun _ hq => tM_copy_now_snaps hq) d_X12_snap_67 70 rfl kk_X12_copy q_1563 q_1564 ⟨rfl, rfl⟩ ⟨Nat.le_of_ble_eq_true rfl, Nat.le_of_ble_eq_true rfl⟩ rfl rfl (Nat.le_of_ble_eq_true rfl) ⟨Nat.zero_le _, Nat.zero_le _⟩ h (fun u_3 h => ?_)
    refine z_aload_n cx d_X12_snap_70 71 rfl rfl 0 rfl ?_
    refine z_dup cx d_X12_snap_71 72 rfl rfl ?_
    refine z_get cx d_X12_snap_72 75 rfl e_M rfl zX12 20 (by decide) q_1381 rfl rfl ?_
    refine y_iconst cx d_X12_snap_75 76 rfl ?_
    refine y_iadd cx d_X12_snap_76 77 rfl ?_
    refine y_put cx d_X12_snap_77 80 rfl e_M rfl zX12 tyX12_ok nmX12 20 (by decide) q_1381 rfl rfl rfl rfl (Nat.le_of_ble_eq_true rfl) h (fun _ h9 => s_M_20 h9) (fun M_4 h => ?_)
    subst hQ
    obtain rfl := Option.some.inj h
    exact z_vret cx d_X12_snap_80 rfl
  refine y_icmp_ne cx d_X12_snap_6 9 rfl 50 (by decide) rfl (nm_eq (x := 8) (by decide) (by decide)) h (fun h => ?_) (fun h => ?_)
  · exact hk_2 _ h
  · refine y_iconst cx d_X12_snap_9 10 rfl ?_
    refine y_istore_n cx d_X12_snap_10 11 rfl rfl (by decide) (lv' := [(1, .int (zI 0)), (0, .ref (g.2.2 0))]) rfl ?_
    refine z_sub [1, 0] rfl ?_
    refine lop2_f (P := fun (v1_5 : Int) (M_6 : ZB) => V p l e zrM_snap s m args below meth c A s.heap g 2 Q (wM g M_6) 0 0 [(0, .ref (g.2.2 0)), (1, .int (zI v1_5))] 11 []) (fun rec_7 hrec_7 v1_5 M_6 h => ?_) _ _ _ h
    refine z_iload_n cx d_X12_snap_11 12 rfl rfl 1 rfl ?_
    refine y_sipush cx d_X12_snap_12 15 rfl (by decide) ?_
    refine y_icmp_ge cx d_X12_snap_15 18 rfl 40 (by decide) rfl (nm_eq (x := 1029) (by decide) (by decide)) h (fun h => ?_) (fun h => ?_)
    · refine z_aload_n cx d_X12_snap_40 41 rfl rfl 0 rfl ?_
      refine z_dup cx d_X12_snap_41 42 rfl rfl ?_
      refine z_get cx d_X12_snap_42 45 rfl e_M rfl zX12 20 (by decide) q_1381 rfl rfl ?_
      refine y_iconst cx d_X12_snap_45 46 rfl ?_
      refine y_isub cx d_X12_snap_46 47 rfl ?_
      refine y_put cx d_X12_snap_47 50 rfl e_M rfl zX12 tyX12_ok nmX12 20 (by decide) q_1381 rfl rfl rfl rfl (Nat.le_of_ble_eq_true rfl) h (fun _ h9 => s_M_20 h9) (fun M_8 h => ?_)
      refine z_sub [0] rfl ?_
      exact hk_2 _ h
    · refine z_aload_n cx d_X12_snap_18 19 rfl rfl 0 rfl ?_
      refine z_get cx d_X12_snap_19 22 rfl e_M rfl zX12 15 (by decide) q_1376 rfl rfl ?_
      refine z_iload_n cx d_X12_snap_22 23 rfl rfl 1 rfl ?_
      refine z_aload_n cx d_X12_snap_23 24 rfl rfl 0 rfl ?_
      refine z_get cx d_X12_snap_24 27 rfl e_M rfl zX12 15 (by decide) q_1376 rfl rfl ?_
      refine z_iload_n cx d_X12_snap_27 28 rfl rfl 1 rfl ?_
      refine y_sipush cx d_X12_snap_28 31 rfl (by decide) ?_
      refine y_iadd cx d_X12_snap_31 32 rfl ?_
      refine y_ialdx cx d_X12_snap_32 33 rfl e_M_snaps (by decide) h (fun x_9 h => ?_)
      refine y_iast cx d_X12_snap_33 34 rfl e_M_snaps (by decide) h (fun _ h9 => s_M_snaps h9) (fun M_10 h => ?_)
      refine y_iinc cx 1 d_X12_snap_34 37 rfl rfl (by decide) (lv' := [(1, .int (zI (v1_5 + 1))), (0, .ref (g.2.2 0))]) rfl ?_
      refine z_goto cx d_X12_snap_37 11 (by decide) ?_
      refine z_sub [1, 0] rfl ?_
      exact hrec_7 _ _ h
set_option maxHeartbeats 4000000 in
theorem tM_lines {l : Launch} {g : ZG} {M : ZB}  {r : Int} (h : fM_lines M = some r) : zMi l yX12_lines cX12_lines 1 (some .int) zr0 g [.ref (g.2.2 0)] (wM g M) (wM g M) (zI r) := by
  unfold fM_lines at h
  refine zMi_q (own := RX12) rfl (by decide +kernel) (Nat.le_of_ble_eq_true rfl) (lv := [(0, .ref (g.2.2 0))]) rfl ⟨rfl, rfl⟩ ?_
  intro p e s m args below meth c A Q hQ cx
  refine z_aload_n cx d_X12_lines_0 1 rfl rfl 0 rfl ?_
  refine z_get cx d_X12_lines_1 4 rfl e_M rfl zX12 12 (by decide) q_1373 rfl rfl ?_
  refine y_iconst cx d_X12_lines_4 5 rfl ?_
  refine y_ialdx cx d_X12_lines_5 6 rfl e_M_now (by decide) h (fun x_1 h => ?_)
  subst hQ
  obtain rfl := Option.some.inj h
  exact z_iret cx d_X12_lines_6 rfl rfl
set_option maxHeartbeats 4000000 in
theorem tM_lies {l : Launch} {g : ZG} {M : ZB} {a1 : Int} {r : Int} (h : fM_lies M a1 = some r) : zMi l yX12_lies cX12_lies 2 (some .int) zr0 g [.ref (g.2.2 0), .int (zI a1)] (wM g M) (wM g M) (zI r) := by
  unfold fM_lies at h
  refine zMi_q (own := RX12) rfl (by decide +kernel) (Nat.le_of_ble_eq_true rfl) (lv := [(0, .ref (g.2.2 0)), (1, .int (zI a1))]) rfl ⟨rfl, rfl⟩ ?_
  intro p e s m args below meth c A Q hQ cx
  refine z_aload_n cx d_X12_lies_0 1 rfl rfl 0 rfl ?_
  refine z_get cx d_X12_lies_1 4 rfl e_M rfl zX12 12 (by decide) q_1373 rfl rfl ?_
  refine y_bipush cx d_X12_lies_4 6 rfl (by decide) ?_
  refine z_iload_n cx d_X12_lies_6 7 rfl rfl 1 rfl ?_
  refine y_iadd cx d_X12_lies_7 8 rfl ?_
  refine y_ialdx cx d_X12_lies_8 9 rfl e_M_now (by decide) h (fun x_1 h => ?_)
  subst hQ
  obtain rfl := Option.some.inj h
  exact z_iret cx d_X12_lies_9 rfl rfl
def zrM_forests : Room := { frames := 2, cells := 0, slots := 0, locals := 45 }
set_option maxHeartbeats 4000000 in
theorem tM_forests {l : Launch} {g : ZG} {M : ZB} {a1 : Int} {r : Int × ZB} (h : fM_forests M a1 = some r) : zMi l yX12_forests cX12_forests 4 (some .int) zrM_forests g [.ref (g.2.2 0), .int (zI a1)] (wM g M) (wM g r.2) (zI r.1) := by
  unfold fM_forests at h
  refine zMi_q (own := RX12) rfl (by decide +kernel) (Nat.le_of_ble_eq_true rfl) (lv := [(0, .ref (g.2.2 0)), (1, .int (zI a1))]) rfl ⟨rfl, rfl⟩ ?_
  intro p e s m args below meth c A Q hQ cx
  refine z_aload_n cx d_X12_forests_0 1 rfl rfl 0 rfl ?_
  refine y_iconst cx d_X12_forests_1 2 rfl ?_
  refine y_put cx d_X12_forests_2 5 rfl e_M rfl zX12 tyX12_ok nmX12 0 (by decide) q_1361 rfl rfl rfl rfl (Nat.le_of_ble_eq_true rfl) h (fun _ h9 => s_M_0 h9) (fun M_1 h => ?_)
  refine z_iload_n cx d_X12_forests_5 6 rfl rfl 1 rfl ?_
  refine y_iconst cx d_X12_forests_6 7 rfl ?_
  refine y_iconst cx d_X12_forests_7 8 rfl ?_
  refine y_callS_i (As := [.int (zI a1), .int (zI 1), .int (zI 5)]) (rest := []) (W := fun u_2 => wM g M_1) (rf := fun u_2 => zI u_2) (rm := zr0) cx (fun _ hq => tM_isIn hq) d_X12_forests_8 11 rfl kk_X12_isIn q_1552 q_1553 ⟨rfl, rfl⟩ ⟨Nat.le_of_ble_eq_true rfl, Nat.le_of_ble_eq_true rfl⟩ rfl rfl (Nat.le_of_ble_eq_true rfl) ⟨Nat.zero_le _, Nat.zero_le _⟩ h (fun u_2 h => ?_)
  refine kf0_f (P := V p l e zrM_forests s m args below meth c A s.heap g 4 Q (wM g M_1) 0 0 [] 22 []) h (fun h => ?_) (fun k_3 hk_3 h => ?_)
  · refine y_iconst cx d_X12_forests_22 23 rfl ?_
    subst hQ
    obtain rfl := Option.some.inj h
    exact z_iret cx d_X12_forests_23 rfl rfl
  refine y_if_eq cx d_X12_forests_11 14 rfl 22 (by decide) rfl h (fun h => ?_) (fun h => ?_)
  · refine z_sub [] rfl ?_
    exact hk_3  h
  · refine z_iload_n cx d_X12_forests_14 15 rfl rfl 1 rfl ?_
    refine z_aload_n cx d_X12_forests_15 16 rfl rfl 0 rfl ?_
    refine y_callV_i (As := []) (rest := [.int (zI a1)]) (W := fun u_4 => wM g M_1) (rf := fun u_4 => zI u_4) (rm := zr0) cx (fun _ hq => tM_many hq) d_X12_forests_16 19 rfl kk_X12_many q_1574 q_1576 q_61 rfl e_M rfl ⟨rfl, rfl⟩ ⟨Nat.le_of_ble_eq_true rfl, Nat.le_of_ble_eq_true rfl⟩ rfl rfl (Nat.le_of_ble_eq_true rfl) ⟨Nat.zero_le _, Nat.zero_le _⟩ h (fun u_4 h => ?_)
    refine y_icmp_ne cx d_X12_forests_19 22 rfl 24 (by decide) rfl rfl h (fun h => ?_) (fun h => ?_)
    · refine z_aload_n cx d_X12_forests_24 25 rfl rfl 0 rfl ?_
      refine y_callV_v (As := []) (rest := []) (W := fun u_5 => wM g u_5) (rm := zrM_snap) cx (fun _ hq => tM_snap hq) d_X12_forests_25 28 rfl kk_X12_snap q_1578 q_1580 q_62 rfl e_M rfl ⟨rfl, rfl⟩ ⟨Nat.le_of_ble_eq_true rfl, Nat.le_of_ble_eq_true rfl⟩ rfl rfl (Nat.le_of_ble_eq_true rfl) ⟨Nat.zero_le _, Nat.zero_le _⟩ h (fun u_5 h => ?_)
      refine y_iconst cx d_X12_forests_28 29 rfl ?_
      refine y_istore_n cx d_X12_forests_29 30 rfl rfl (by decide) (lv' := [(2, .int (zI 0)), (0, .ref (g.2.2 0)), (1, .int (zI a1))]) rfl ?_
      refine y_iconst cx d_X12_forests_30 31 rfl ?_
      refine y_istore_n cx d_X12_forests_31 32 rfl rfl (by decide) (lv' := [(3, .int (zI 0)), (2, .int (zI 0)), (0, .ref (g.2.2 0)), (1, .int (zI a1))]) rfl ?_
      refine z_sub [2, 3, 1, 0] rfl ?_
      refine lop3_f (P := fun (v2_6 : Int) (v3_7 : Int) (M_8 : ZB) => V p l e zrM_forests s m args below meth c A s.heap g 4 Q (wM g M_8) 0 0 [(0, .ref (g.2.2 0)), (1, .int (zI a1)), (2, .int (zI v2_6)), (3, .int (zI v3_7))] 32 []) (fun rec_9 hrec_9 v2_6 v3_7 M_8 h => ?_) _ _ _ _ h
      refine z_iload_n cx d_X12_forests_32 33 rfl rfl 3 rfl ?_
      refine z_aload_n cx d_X12_forests_33 34 rfl rfl 0 rfl ?_
      refine y_callV_i (As := []) (rest := [.int (zI v3_7)]) (W := fun u_10 => wM g M_8) (rf := fun u_10 => zI u_10) (rm := zr0) cx (fun _ hq => tM_lines hq) d_X12_forests_34 37 rfl kk_X12_lines q_1582 q_1584 q_63 rfl e_M rfl ⟨rfl, rfl⟩ ⟨Nat.le_of_ble_eq_true rfl, Nat.le_of_ble_eq_true rfl⟩ rfl rfl (Nat.le_of_ble_eq_true rfl) ⟨Nat.zero_le _, Nat.zero_le _⟩ h (fun u_10 h => ?_)
      refine y_icmp_ge cx d_X12_forests_37 40 rfl 71 (by decide) rfl rfl h (fun h => ?_) (fun h => ?_)
      · refine z_aload_n cx d_X12_forests_71 72 rfl rfl 0 rfl ?_
        refine z_get cx d_X12_forests_72 75 rfl e_M rfl zX12 12 (by decide) q_1373 rfl rfl ?_
        refine y_iconst cx d_X12_forests_75 76 rfl ?_
        refine z_iload_n cx d_X12_forests_76 77 rfl rfl 1 rfl ?_
        refine y_iast cx d_X12_forests_77 78 rfl e_M_now (by decide) h (fun _ h9 => s_M_now h9) (fun M_11 h => ?_)
        refine z_iload_n cx d_X12_forests_78 79 rfl rfl 2 rfl ?_
        subst hQ
        obtain rfl := Option.some.inj h
        exact z_iret cx d_X12_forests_79 rfl rfl
      · refine z_aload_n cx d_X12_forests_40 41 rfl rfl 0 rfl ?_
        refine z_iload_n cx d_X12_forests_41 42 rfl rfl 3 rfl ?_
        refine y_callV_i (As := [.int (zI v3_7)]) (rest := []) (W := fun u_12 => wM g M_8) (rf := fun u_12 => zI u_12) (rm := zr0) cx (fun _ hq => tM_lies hq) d_X12_forests_42 45 rfl kk_X12_lies q_1586 q_1588 q_64 rfl e_M rfl ⟨rfl, rfl⟩ ⟨Nat.le_of_ble_eq_true rfl, Nat.le_of_ble_eq_true rfl⟩ rfl rfl (Nat.le_of_ble_eq_true rfl) ⟨Nat.zero_le _, Nat.zero_le _⟩ h (fun u_12 h => ?_)
        refine z_iload_n cx d_X12_forests_45 46 rfl rfl 1 rfl ?_
        refine kf2_f (P := fun (v2_13 : Int) (M_14 : ZB) => V p l e zrM_forests s m args below meth c A s.heap g 4 Q (wM g M_14) 0 0 [(0, .ref (g.2.2 0)), (1, .int (zI a1)), (2, .int (zI v2_13)), (3, .int (zI v3_7))] 65 []) h (fun v2_13 M_14 h => ?_) (fun k_15 hk_15 h => ?_)
        · refine y_iinc cx 3 d_X12_forests_65 68 rfl rfl (by decide) (lv' := [(3, .int (zI (v3_7 + 1))), (0, .ref (g.2.2 0)), (1, .int (zI a1)), (2, .int (zI v2_13))]) rfl ?_
          refine z_goto cx d_X12_forests_68 32 (by decide) ?_
          refine z_sub [1, 2, 3, 0] rfl ?_
          exact hrec_9 _ _ _ h
        refine y_icmp_ge cx d_X12_forests_46 49 rfl 52 (by decide) rfl rfl h (fun h => ?_) (fun h => ?_)
        · refine z_aload_n cx d_X12_forests_52 53 rfl rfl 0 rfl ?_
          refine z_get cx d_X12_forests_53 56 rfl e_M rfl zX12 12 (by decide) q_1373 rfl rfl ?_
          refine y_bipush cx d_X12_forests_56 58 rfl (by decide) ?_
          refine z_iload_n cx d_X12_forests_58 59 rfl rfl 3 rfl ?_
          refine y_iadd cx d_X12_forests_59 60 rfl ?_
          refine y_iconst cx d_X12_forests_60 61 rfl ?_
          refine y_iast cx d_X12_forests_61 62 rfl e_M_now (by decide) h (fun _ h9 => s_M_now h9) (fun M_16 h => ?_)
          refine y_iinc cx 2 d_X12_forests_62 65 rfl rfl (by decide) (lv' := [(2, .int (zI (v2_6 + 1))), (0, .ref (g.2.2 0)), (1, .int (zI a1)), (3, .int (zI v3_7))]) rfl ?_
          refine z_sub [1, 2, 0, 3] rfl ?_
          exact hk_15 _ _ h
        · refine z_goto cx d_X12_forests_49 65 (by decide) ?_
          exact hk_15 _ _ h
    · refine z_sub [] rfl ?_
      exact hk_3  h
def zrM_isLine : Room := { frames := 1, cells := 0, slots := 0, locals := 22 }
set_option maxHeartbeats 4000000 in
theorem tM_isLine {l : Launch} {g : ZG} {M : ZB} {a1 : Int} {r : Int} (h : fM_isLine M a1 = some r) : zMi l yX12_isLine cX12_isLine 2 (some .boolean) zrM_isLine g [.ref (g.2.2 0), .int (zI a1)] (wM g M) (wM g M) (zI r) := by
  unfold fM_isLine at h
  refine zMi_q (own := RX12) rfl (by decide +kernel) (Nat.le_of_ble_eq_true rfl) (lv := [(0, .ref (g.2.2 0)), (1, .int (zI a1))]) rfl ⟨rfl, rfl⟩ ?_
  intro p e s m args below meth c A Q hQ cx
  refine z_iload_n cx d_X12_isLine_0 1 rfl rfl 1 rfl ?_
  refine y_iconst cx d_X12_isLine_1 2 rfl ?_
  refine z_aload_n cx d_X12_isLine_2 3 rfl rfl 0 rfl ?_
  refine y_callV_i (As := []) (rest := [.int (zI 0), .int (zI a1)]) (W := fun u_1 => wM g M) (rf := fun u_1 => zI u_1) (rm := zr0) cx (fun _ hq => tM_lines hq) d_X12_isLine_3 6 rfl kk_X12_lines q_1582 q_1584 q_63 rfl e_M rfl ⟨rfl, rfl⟩ ⟨Nat.le_of_ble_eq_true rfl, Nat.le_of_ble_eq_true rfl⟩ rfl rfl (Nat.le_of_ble_eq_true rfl) ⟨Nat.zero_le _, Nat.zero_le _⟩ h (fun u_1 h => ?_)
  refine y_iconst cx d_X12_isLine_6 7 rfl ?_
  refine y_isub cx d_X12_isLine_7 8 rfl ?_
  refine y_callS_i (As := [.int (zI a1), .int (zI 0), .int (zI (u_1 - 1))]) (rest := []) (W := fun u_2 => wM g M) (rf := fun u_2 => zI u_2) (rm := zr0) cx (fun _ hq => tM_isIn hq) d_X12_isLine_8 11 rfl kk_X12_isIn q_1552 q_1553 ⟨rfl, rfl⟩ ⟨Nat.le_of_ble_eq_true rfl, Nat.le_of_ble_eq_true rfl⟩ rfl rfl (Nat.le_of_ble_eq_true rfl) ⟨Nat.zero_le _, Nat.zero_le _⟩ h (fun u_2 h => ?_)
  obtain ⟨hz, h⟩ := zo_i h
  subst hQ
  obtain rfl := Option.some.inj h
  exact z_zret cx d_X12_isLine_11 (zb01 hz) rfl rfl
set_option maxHeartbeats 4000000 in
theorem tM_refuse {l : Launch} {g : ZG} {M : ZB}  {r : Int × ZB} (h : fM_refuse M = some r) : zMi l yX12_refuse cX12_refuse 1 (some .int) zr0 g [.ref (g.2.2 0)] (wM g M) (wM g r.2) (zI r.1) := by
  unfold fM_refuse at h
  refine zMi_q (own := RX12) rfl (by decide +kernel) (Nat.le_of_ble_eq_true rfl) (lv := [(0, .ref (g.2.2 0))]) rfl ⟨rfl, rfl⟩ ?_
  intro p e s m args below meth c A Q hQ cx
  refine z_aload_n cx d_X12_refuse_0 1 rfl rfl 0 rfl ?_
  refine y_iconst cx d_X12_refuse_1 2 rfl ?_
  refine y_put cx d_X12_refuse_2 5 rfl e_M rfl zX12 tyX12_ok nmX12 0 (by decide) q_1361 rfl rfl rfl rfl (Nat.le_of_ble_eq_true rfl) h (fun _ h9 => s_M_0 h9) (fun M_1 h => ?_)
  refine y_iconst cx d_X12_refuse_5 6 rfl ?_
  subst hQ
  obtain rfl := Option.some.inj h
  exact z_iret cx d_X12_refuse_6 rfl rfl
def zrM_line : Room := { frames := 2, cells := 0, slots := 0, locals := 43 }
set_option maxHeartbeats 4000000 in
theorem tM_line {l : Launch} {g : ZG} {M : ZB} {a1 : Int} {a2 : Int} {r : Int × ZB} (h : fM_line M a1 a2 = some r) : zMi l yX12_line cX12_line 3 (some .int) zrM_line g [.ref (g.2.2 0), .int (zI a1), .int (zI a2)] (wM g M) (wM g r.2) (zI r.1) := by
  unfold fM_line at h
  refine zMi_q (own := RX12) rfl (by decide +kernel) (Nat.le_of_ble_eq_true rfl) (lv := [(0, .ref (g.2.2 0)), (1, .int (zI a1)), (2, .int (zI a2))]) rfl ⟨rfl, rfl⟩ ?_
  intro p e s m args below meth c A Q hQ cx
  refine z_aload_n cx d_X12_line_0 1 rfl rfl 0 rfl ?_
  refine y_iconst cx d_X12_line_1 2 rfl ?_
  refine y_put cx d_X12_line_2 5 rfl e_M rfl zX12 tyX12_ok nmX12 0 (by decide) q_1361 rfl rfl rfl rfl (Nat.le_of_ble_eq_true rfl) h (fun _ h9 => s_M_0 h9) (fun M_1 h => ?_)
  refine z_aload_n cx d_X12_line_5 6 rfl rfl 0 rfl ?_
  refine z_iload_n cx d_X12_line_6 7 rfl rfl 1 rfl ?_
  refine y_callV_i (As := [.int (zI a1)]) (rest := []) (W := fun u_2 => wM g M_1) (rf := fun u_2 => zI u_2) (rm := zrM_isLine) cx (fun _ hq => tM_isLine hq) d_X12_line_7 10 rfl kk_X12_isLine q_1594 q_1596 q_65 rfl e_M rfl ⟨rfl, rfl⟩ ⟨Nat.le_of_ble_eq_true rfl, Nat.le_of_ble_eq_true rfl⟩ rfl rfl (Nat.le_of_ble_eq_true rfl) ⟨Nat.zero_le _, Nat.zero_le _⟩ h (fun u_2 h => ?_)
  refine y_if_ne cx d_X12_line_10 13 rfl 18 (by decide) rfl h (fun h => ?_) (fun h => ?_)
  · refine z_iload_n cx d_X12_line_18 19 rfl rfl 2 rfl ?_
    refine ite_c h (fun c_3 h => ?_) (fun c_3 h => ?_)
    · refine y_swIn cx d_X12_line_19 0 (Eq.trans rfl c_3) 52 (by decide) (by decide) rfl (by decide) ?_
      refine z_aload_n cx d_X12_line_52 53 rfl rfl 0 rfl ?_
      refine z_get cx d_X12_line_53 56 rfl e_M rfl zX12 12 (by decide) q_1373 rfl rfl ?_
      refine y_iconst cx d_X12_line_56 57 rfl ?_
      refine z_iload_n cx d_X12_line_57 58 rfl rfl 1 rfl ?_
      refine y_iadd cx d_X12_line_58 59 rfl ?_
      refine y_ialdx cx d_X12_line_59 60 rfl e_M_now (by decide) h (fun x_4 h => ?_)
      subst hQ
      obtain rfl := Option.some.inj h
      exact z_iret cx d_X12_line_60 rfl rfl
    · refine ite_c h (fun c_5 h => ?_) (fun c_5 h => ?_)
      · refine y_swIn cx d_X12_line_19 1 (Eq.trans rfl c_5) 61 (by decide) (by decide) rfl (by decide) ?_
        refine z_aload_n cx d_X12_line_61 62 rfl rfl 0 rfl ?_
        refine z_get cx d_X12_line_62 65 rfl e_M rfl zX12 12 (by decide) q_1373 rfl rfl ?_
        refine y_bipush cx d_X12_line_65 67 rfl (by decide) ?_
        refine z_iload_n cx d_X12_line_67 68 rfl rfl 1 rfl ?_
        refine y_iadd cx d_X12_line_68 69 rfl ?_
        refine y_ialdx cx d_X12_line_69 70 rfl e_M_now (by decide) h (fun x_6 h => ?_)
        subst hQ
        obtain rfl := Option.some.inj h
        exact z_iret cx d_X12_line_70 rfl rfl
      · refine ite_c h (fun c_7 h => ?_) (fun c_7 h => ?_)
        · refine y_swIn cx d_X12_line_19 2 (Eq.trans rfl c_7) 71 (by decide) (by decide) rfl (by decide) ?_
          refine z_aload_n cx d_X12_line_71 72 rfl rfl 0 rfl ?_
          refine z_get cx d_X12_line_72 75 rfl e_M rfl zX12 12 (by decide) q_1373 rfl rfl ?_
          refine y_bipush cx d_X12_line_75 77 rfl (by decide) ?_
          refine z_iload_n cx d_X12_line_77 78 rfl rfl 1 rfl ?_
          refine y_iadd cx d_X12_line_78 79 rfl ?_
          refine y_ialdx cx d_X12_line_79 80 rfl e_M_now (by decide) h (fun x_8 h => ?_)
          subst hQ
          obtain rfl := Option.some.inj h
          exact z_iret cx d_X12_line_80 rfl rfl
        · refine ite_c h (fun c_9 h => ?_) (fun c_9 h => ?_)
          · refine y_swIn cx d_X12_line_19 3 (Eq.trans rfl c_9) 81 (by decide) (by decide) rfl (by decide) ?_
            refine z_aload_n cx d_X12_line_81 82 rfl rfl 0 rfl ?_
            refine z_iload_n cx d_X12_line_82 83 rfl rfl 1 rfl ?_
            refine y_callV_i (As := [.int (zI a1)]) (rest := []) (W := fun u_10 => wM g M_1) (rf := fun u_10 => zI u_10) (rm := zr0) cx (fun _ hq => tM_lies hq) d_X12_line_83 86 rfl kk_X12_lies q_1586 q_1588 q_64 rfl e_M rfl ⟨rfl, rfl⟩ ⟨Nat.le_of_ble_eq_true rfl, Nat.le_of_ble_eq_true rfl⟩ rfl rfl (Nat.le_of_ble_eq_true rfl) ⟨Nat.zero_le _, Nat.zero_le _⟩ h (fun u_10 h => ?_)
            subst hQ
            obtain rfl := Option.some.inj h
            exact z_iret cx d_X12_line_86 rfl rfl
          · refine ite_c h (fun c_11 h => ?_) (fun c_11 h => ?_)
            · refine y_swIn cx d_X12_line_19 4 (Eq.trans rfl c_11) 87 (by decide) (by decide) rfl (by decide) ?_
              refine z_aload_n cx d_X12_line_87 88 rfl rfl 0 rfl ?_
              refine z_get cx d_X12_line_88 91 rfl e_M rfl zX12 12 (by decide) q_1373 rfl rfl ?_
              refine y_bipush cx d_X12_line_91 93 rfl (by decide) ?_
              refine z_iload_n cx d_X12_line_93 94 rfl rfl 1 rfl ?_
              refine y_iadd cx d_X12_line_94 95 rfl ?_
              refine y_ialdx cx d_X12_line_95 96 rfl e_M_now (by decide) h (fun x_12 h => ?_)
              subst hQ
              obtain rfl := Option.some.inj h
              exact z_iret cx d_X12_line_96 rfl rfl
            · refine y_swOut cx d_X12_line_19 (by omega) 97 (by decide) ?_
              refine z_aload_n cx d_X12_line_97 98 rfl rfl 0 rfl ?_
              refine y_callV_i (As := []) (rest := []) (W := fun u_13 => wM g u_13.2) (rf := fun u_13 => zI u_13.1) (rm := zr0) cx (fun _ hq => tM_refuse hq) d_X12_line_98 101 rfl kk_X12_refuse q_1598 q_1600 q_66 rfl e_M rfl ⟨rfl, rfl⟩ ⟨Nat.le_of_ble_eq_true rfl, Nat.le_of_ble_eq_true rfl⟩ rfl rfl (Nat.le_of_ble_eq_true rfl) ⟨Nat.zero_le _, Nat.zero_le _⟩ h (fun u_13 h => ?_)
              subst hQ
              obtain rfl := Option.some.inj h
              exact z_iret cx d_X12_line_101 rfl rfl
  · refine z_aload_n cx d_X12_line_13 14 rfl rfl 0 rfl ?_
    refine y_callV_i (As := []) (rest := []) (W := fun u_14 => wM g u_14.2) (rf := fun u_14 => zI u_14.1) (rm := zr0) cx (fun _ hq => tM_refuse hq) d_X12_line_14 17 rfl kk_X12_refuse q_1598 q_1600 q_66 rfl e_M rfl ⟨rfl, rfl⟩ ⟨Nat.le_of_ble_eq_true rfl, Nat.le_of_ble_eq_true rfl⟩ rfl rfl (Nat.le_of_ble_eq_true rfl) ⟨Nat.zero_le _, Nat.zero_le _⟩ h (fun u_14 h => ?_)
    subst hQ
    obtain rfl := Option.some.inj h
    exact z_iret cx d_X12_line_17 rfl rfl
def zrM_isForest : Room := { frames := 1, cells := 0, slots := 0, locals := 22 }
set_option maxHeartbeats 4000000 in
theorem tM_isForest {l : Launch} {g : ZG} {M : ZB} {a1 : Int} {r : Int} (h : fM_isForest M a1 = some r) : zMi l yX12_isForest cX12_isForest 2 (some .boolean) zrM_isForest g [.ref (g.2.2 0), .int (zI a1)] (wM g M) (wM g M) (zI r) := by
  unfold fM_isForest at h
  refine zMi_q (own := RX12) rfl (by decide +kernel) (Nat.le_of_ble_eq_true rfl) (lv := [(0, .ref (g.2.2 0)), (1, .int (zI a1))]) rfl ⟨rfl, rfl⟩ ?_
  intro p e s m args below meth c A Q hQ cx
  refine z_iload_n cx d_X12_isForest_0 1 rfl rfl 1 rfl ?_
  refine y_iconst cx d_X12_isForest_1 2 rfl ?_
  refine z_aload_n cx d_X12_isForest_2 3 rfl rfl 0 rfl ?_
  refine y_callV_i (As := []) (rest := [.int (zI 0), .int (zI a1)]) (W := fun u_1 => wM g M) (rf := fun u_1 => zI u_1) (rm := zr0) cx (fun _ hq => tM_many hq) d_X12_isForest_3 6 rfl kk_X12_many q_1574 q_1576 q_61 rfl e_M rfl ⟨rfl, rfl⟩ ⟨Nat.le_of_ble_eq_true rfl, Nat.le_of_ble_eq_true rfl⟩ rfl rfl (Nat.le_of_ble_eq_true rfl) ⟨Nat.zero_le _, Nat.zero_le _⟩ h (fun u_1 h => ?_)
  refine y_iconst cx d_X12_isForest_6 7 rfl ?_
  refine y_isub cx d_X12_isForest_7 8 rfl ?_
  refine y_callS_i (As := [.int (zI a1), .int (zI 0), .int (zI (u_1 - 1))]) (rest := []) (W := fun u_2 => wM g M) (rf := fun u_2 => zI u_2) (rm := zr0) cx (fun _ hq => tM_isIn hq) d_X12_isForest_8 11 rfl kk_X12_isIn q_1552 q_1553 ⟨rfl, rfl⟩ ⟨Nat.le_of_ble_eq_true rfl, Nat.le_of_ble_eq_true rfl⟩ rfl rfl (Nat.le_of_ble_eq_true rfl) ⟨Nat.zero_le _, Nat.zero_le _⟩ h (fun u_2 h => ?_)
  obtain ⟨hz, h⟩ := zo_i h
  subst hQ
  obtain rfl := Option.some.inj h
  exact z_zret cx d_X12_isForest_11 (zb01 hz) rfl rfl
set_option maxHeartbeats 4000000 in
theorem tM_isBroken {l : Launch} {g : ZG} {M : ZB} {a1 : Int} {r : Int} (h : fM_isBroken M a1 = some r) : zMi l yX12_isBroken cX12_isBroken 2 (some .boolean) zr0 g [.ref (g.2.2 0), .int (zI a1)] (wM g M) (wM g M) (zI r) := by
  unfold fM_isBroken at h
  refine zMi_q (own := RX12) rfl (by decide +kernel) (Nat.le_of_ble_eq_true rfl) (lv := [(0, .ref (g.2.2 0)), (1, .int (zI a1))]) rfl ⟨rfl, rfl⟩ ?_
  intro p e s m args below meth c A Q hQ cx
  refine z_aload_n cx d_X12_isBroken_0 1 rfl rfl 0 rfl ?_
  refine z_get cx d_X12_isBroken_1 4 rfl e_M rfl zX12 12 (by decide) q_1373 rfl rfl ?_
  refine y_bipush cx d_X12_isBroken_4 6 rfl (by decide) ?_
  refine z_iload_n cx d_X12_isBroken_6 7 rfl rfl 1 rfl ?_
  refine y_iadd cx d_X12_isBroken_7 8 rfl ?_
  refine y_ialdx cx d_X12_isBroken_8 9 rfl e_M_now (by decide) h (fun x_1 h => ?_)
  refine y_iconst cx d_X12_isBroken_9 10 rfl ?_
  refine kf1_f (P := fun (w0_2 : Int) => V p l e zr0 s m args below meth c A s.heap g 2 Q (wM g M) 0 0 [] 18 [.int (zI w0_2)]) h (fun w0_2 h => ?_) (fun k_3 hk_3 h => ?_)
  · obtain ⟨hz, h⟩ := zo_i h
    subst hQ
    obtain rfl := Option.some.inj h
    exact z_zret cx d_X12_isBroken_18 (zb01 hz) rfl rfl
  refine y_icmp_ne cx d_X12_isBroken_10 13 rfl 17 (by decide) rfl (nm_eq (x := 1) (by decide) (by decide)) h (fun h => ?_) (fun h => ?_)
  · refine y_iconst cx d_X12_isBroken_17 18 rfl ?_
    refine z_sub [] rfl ?_
    exact hk_3 _ h
  · refine y_iconst cx d_X12_isBroken_13 14 rfl ?_
    refine z_goto cx d_X12_isBroken_14 18 (by decide) ?_
    refine z_sub [] rfl ?_
    exact hk_3 _ h
def zrM_inForest : Room := { frames := 1, cells := 0, slots := 0, locals := 21 }
set_option maxHeartbeats 4000000 in
theorem tM_inForest {l : Launch} {g : ZG} {M : ZB} {a1 : Int} {r : Int} (h : fM_inForest M a1 = some r) : zMi l yX12_inForest cX12_inForest 4 (some .int) zrM_inForest g [.ref (g.2.2 0), .int (zI a1)] (wM g M) (wM g M) (zI r) := by
  unfold fM_inForest at h
  refine zMi_q (own := RX12) rfl (by decide +kernel) (Nat.le_of_ble_eq_true rfl) (lv := [(0, .ref (g.2.2 0)), (1, .int (zI a1))]) rfl ⟨rfl, rfl⟩ ?_
  intro p e s m args below meth c A Q hQ cx
  refine y_iconst cx d_X12_inForest_0 1 rfl ?_
  refine y_istore_n cx d_X12_inForest_1 2 rfl rfl (by decide) (lv' := [(2, .int (zI 0)), (0, .ref (g.2.2 0)), (1, .int (zI a1))]) rfl ?_
  refine y_iconst cx d_X12_inForest_2 3 rfl ?_
  refine y_istore_n cx d_X12_inForest_3 4 rfl rfl (by decide) (lv' := [(3, .int (zI 0)), (2, .int (zI 0)), (0, .ref (g.2.2 0)), (1, .int (zI a1))]) rfl ?_
  refine z_sub [2, 3, 1, 0] rfl ?_
  refine lop2_f (P := fun (v2_1 : Int) (v3_2 : Int) => V p l e zrM_inForest s m args below meth c A s.heap g 4 Q (wM g M) 0 0 [(0, .ref (g.2.2 0)), (1, .int (zI a1)), (2, .int (zI v2_1)), (3, .int (zI v3_2))] 4 []) (fun rec_3 hrec_3 v2_1 v3_2 h => ?_) _ _ _ h
  refine z_iload_n cx d_X12_inForest_4 5 rfl rfl 3 rfl ?_
  refine z_aload_n cx d_X12_inForest_5 6 rfl rfl 0 rfl ?_
  refine y_callV_i (As := []) (rest := [.int (zI v3_2)]) (W := fun u_4 => wM g M) (rf := fun u_4 => zI u_4) (rm := zr0) cx (fun _ hq => tM_lines hq) d_X12_inForest_6 9 rfl kk_X12_lines q_1582 q_1584 q_63 rfl e_M rfl ⟨rfl, rfl⟩ ⟨Nat.le_of_ble_eq_true rfl, Nat.le_of_ble_eq_true rfl⟩ rfl rfl (Nat.le_of_ble_eq_true rfl) ⟨Nat.zero_le _, Nat.zero_le _⟩ h (fun u_4 h => ?_)
  refine y_icmp_ge cx d_X12_inForest_9 12 rfl 33 (by decide) rfl rfl h (fun h => ?_) (fun h => ?_)
  · refine z_iload_n cx d_X12_inForest_33 34 rfl rfl 2 rfl ?_
    subst hQ
    obtain rfl := Option.some.inj h
    exact z_iret cx d_X12_inForest_34 rfl rfl
  · refine z_aload_n cx d_X12_inForest_12 13 rfl rfl 0 rfl ?_
    refine z_iload_n cx d_X12_inForest_13 14 rfl rfl 3 rfl ?_
    refine y_callV_i (As := [.int (zI v3_2)]) (rest := []) (W := fun u_5 => wM g M) (rf := fun u_5 => zI u_5) (rm := zr0) cx (fun _ hq => tM_lies hq) d_X12_inForest_14 17 rfl kk_X12_lies q_1586 q_1588 q_64 rfl e_M rfl ⟨rfl, rfl⟩ ⟨Nat.le_of_ble_eq_true rfl, Nat.le_of_ble_eq_true rfl⟩ rfl rfl (Nat.le_of_ble_eq_true rfl) ⟨Nat.zero_le _, Nat.zero_le _⟩ h (fun u_5 h => ?_)
    refine z_iload_n cx d_X12_inForest_17 18 rfl rfl 1 rfl ?_
    refine kf1_f (P := fun (v2_6 : Int) => V p l e zrM_inForest s m args below meth c A s.heap g 4 Q (wM g M) 0 0 [(0, .ref (g.2.2 0)), (1, .int (zI a1)), (2, .int (zI v2_6)), (3, .int (zI v3_2))] 27 []) h (fun v2_6 h => ?_) (fun k_7 hk_7 h => ?_)
    · refine y_iinc cx 3 d_X12_inForest_27 30 rfl rfl (by decide) (lv' := [(3, .int (zI (v3_2 + 1))), (0, .ref (g.2.2 0)), (1, .int (zI a1)), (2, .int (zI v2_6))]) rfl ?_
      refine z_goto cx d_X12_inForest_30 4 (by decide) ?_
      refine z_sub [1, 2, 3, 0] rfl ?_
      exact hrec_3 _ _ h
    refine y_icmp_ne cx d_X12_inForest_18 21 rfl 27 (by decide) rfl rfl h (fun h => ?_) (fun h => ?_)
    · exact hk_7 _ h
    · refine z_iload_n cx d_X12_inForest_21 22 rfl rfl 2 rfl ?_
      refine y_iconst cx d_X12_inForest_22 23 rfl ?_
      refine z_iload_n cx d_X12_inForest_23 24 rfl rfl 3 rfl ?_
      refine y_ishl cx d_X12_inForest_24 25 rfl ?_
      refine y_ior cx d_X12_inForest_25 26 rfl ?_
      refine y_istore_n_b cx d_X12_inForest_26 27 rfl rfl (by decide) (fun y => [(2, .int (zI y)), (0, .ref (g.2.2 0)), (1, .int (zI a1)), (3, .int (zI v3_2))]) (fun y => rfl) h (fun v2_8 h => ?_)
      refine z_sub [1, 2, 0, 3] rfl ?_
      exact hk_7 _ h
set_option maxHeartbeats 4000000 in
theorem tM_has {l : Launch} {g : ZG} {w : va_W} {a1 : Int} {a2 : Int} {r : Int} (h : fM_has a1 a2 = some r) : zMi l yX12_has cX12_has 2 (some .boolean) zr0 g [.int (zI a1), .int (zI a2)] (w) (w) (zI r) := by
  unfold fM_has at h
  refine zMi_q (own := RX12) rfl (by decide +kernel) (Nat.le_of_ble_eq_true rfl) (lv := [(0, .int (zI a1)), (1, .int (zI a2))]) rfl ⟨rfl, rfl⟩ ?_
  intro p e s m args below meth c A Q hQ cx
  refine z_iload_n cx d_X12_has_0 1 rfl rfl 0 rfl ?_
  refine z_iload_n cx d_X12_has_1 2 rfl rfl 1 rfl ?_
  refine y_ishr cx d_X12_has_2 3 rfl ?_
  refine y_iconst cx d_X12_has_3 4 rfl ?_
  refine y_iand cx d_X12_has_4 5 rfl ?_
  refine y_iconst cx d_X12_has_5 6 rfl ?_
  refine kf1_f (P := fun (w0_1 : Int) => V p l e zr0 s m args below meth c A s.heap g 2 Q (w) 0 0 [] 14 [.int (zI w0_1)]) h (fun w0_1 h => ?_) (fun k_2 hk_2 h => ?_)
  · obtain ⟨hz, h⟩ := zo_i h
    subst hQ
    obtain rfl := Option.some.inj h
    exact z_zret cx d_X12_has_14 (zb01 hz) rfl rfl
  refine y_icmp_ne cx d_X12_has_6 9 rfl 13 (by decide) (nm_zand _ _) (nm_eq (x := 1) (by decide) (by decide)) h (fun h => ?_) (fun h => ?_)
  · refine y_iconst cx d_X12_has_13 14 rfl ?_
    refine z_sub [] rfl ?_
    exact hk_2 _ h
  · refine y_iconst cx d_X12_has_9 10 rfl ?_
    refine z_goto cx d_X12_has_10 14 (by decide) ?_
    refine z_sub [] rfl ?_
    exact hk_2 _ h
set_option maxHeartbeats 4000000 in
theorem tM_ends {l : Launch} {g : ZG} {M : ZB} {a1 : Int} {r : Int} (h : fM_ends M a1 = some r) : zMi l yX12_ends cX12_ends 2 (some .int) zr0 g [.ref (g.2.2 0), .int (zI a1)] (wM g M) (wM g M) (zI r) := by
  unfold fM_ends at h
  refine zMi_q (own := RX12) rfl (by decide +kernel) (Nat.le_of_ble_eq_true rfl) (lv := [(0, .ref (g.2.2 0)), (1, .int (zI a1))]) rfl ⟨rfl, rfl⟩ ?_
  intro p e s m args below meth c A Q hQ cx
  refine y_iconst cx d_X12_ends_0 1 rfl ?_
  refine z_aload_n cx d_X12_ends_1 2 rfl rfl 0 rfl ?_
  refine z_get cx d_X12_ends_2 5 rfl e_M rfl zX12 12 (by decide) q_1373 rfl rfl ?_
  refine y_iconst cx d_X12_ends_5 6 rfl ?_
  refine z_iload_n cx d_X12_ends_6 7 rfl rfl 1 rfl ?_
  refine y_iadd cx d_X12_ends_7 8 rfl ?_
  refine y_ialdx cx d_X12_ends_8 9 rfl e_M_now (by decide) h (fun x_1 h => ?_)
  refine y_ishl cx d_X12_ends_9 10 rfl ?_
  refine y_iconst cx d_X12_ends_10 11 rfl ?_
  refine z_aload_n cx d_X12_ends_11 12 rfl rfl 0 rfl ?_
  refine z_get cx d_X12_ends_12 15 rfl e_M rfl zX12 12 (by decide) q_1373 rfl rfl ?_
  refine y_bipush cx d_X12_ends_15 17 rfl (by decide) ?_
  refine z_iload_n cx d_X12_ends_17 18 rfl rfl 1 rfl ?_
  refine y_iadd cx d_X12_ends_18 19 rfl ?_
  refine y_ialdx cx d_X12_ends_19 20 rfl e_M_now (by decide) h (fun x_2 h => ?_)
  refine y_ishl cx d_X12_ends_20 21 rfl ?_
  refine y_ior cx d_X12_ends_21 22 rfl ?_
  subst hQ
  obtain rfl := Option.some.inj h
  exact z_iret cx d_X12_ends_22 rfl rfl
def zrM_joined : Room := { frames := 1, cells := 0, slots := 0, locals := 21 }
set_option maxHeartbeats 4000000 in
theorem tM_joined {l : Launch} {g : ZG} {M : ZB} {a1 : Int} {a2 : Int} {r : Int} (h : fM_joined M a1 a2 = some r) : zMi l yX12_joined cX12_joined 6 (some .int) zrM_joined g [.ref (g.2.2 0), .int (zI a1), .int (zI a2)] (wM g M) (wM g M) (zI r) := by
  unfold fM_joined at h
  refine zMi_q (own := RX12) rfl (by decide +kernel) (Nat.le_of_ble_eq_true rfl) (lv := [(0, .ref (g.2.2 0)), (1, .int (zI a1)), (2, .int (zI a2))]) rfl ⟨rfl, rfl⟩ ?_
  intro p e s m args below meth c A Q hQ cx
  refine y_iconst cx d_X12_joined_0 1 rfl ?_
  refine z_iload_n cx d_X12_joined_1 2 rfl rfl 1 rfl ?_
  refine y_ishl cx d_X12_joined_2 3 rfl ?_
  refine y_istore_n_b cx d_X12_joined_3 4 rfl rfl (by decide) (fun y => [(3, .int (zI y)), (0, .ref (g.2.2 0)), (1, .int (zI a1)), (2, .int (zI a2))]) (fun y => rfl) h (fun v3_1 h => ?_)
  refine y_iconst cx d_X12_joined_4 5 rfl ?_
  refine y_istore cx d_X12_joined_5 7 rfl (by decide) (lv' := [(4, .int (zI 0)), (3, .int (zI v3_1)), (0, .ref (g.2.2 0)), (1, .int (zI a1)), (2, .int (zI a2))]) rfl ?_
  refine z_sub [2, 4, 1, 0] rfl ?_
  refine lop2_f (P := fun (v3_2 : Int) (v4_3 : Int) => V p l e zrM_joined s m args below meth c A s.heap g 6 Q (wM g M) 0 0 [(0, .ref (g.2.2 0)), (2, .int (zI a2)), (3, .int (zI v3_2)), (4, .int (zI v4_3))] 7 []) (fun rec_4 hrec_4 v3_2 v4_3 h => ?_) _ _ _ h
  refine z_iload_n cx d_X12_joined_7 8 rfl rfl 2 rfl ?_
  refine z_iload cx d_X12_joined_8 10 rfl 3 rfl ?_
  refine y_icmp_eq cx d_X12_joined_10 13 rfl 66 (by decide) rfl rfl h (fun h => ?_) (fun h => ?_)
  · refine z_iload_n cx d_X12_joined_66 67 rfl rfl 2 rfl ?_
    subst hQ
    obtain rfl := Option.some.inj h
    exact z_iret cx d_X12_joined_67 rfl rfl
  · refine z_iload_n cx d_X12_joined_13 14 rfl rfl 2 rfl ?_
    refine y_istore cx d_X12_joined_14 16 rfl (by decide) (lv' := [(4, .int (zI v3_2)), (0, .ref (g.2.2 0)), (2, .int (zI a2)), (3, .int (zI v3_2))]) rfl ?_
    refine y_iconst cx d_X12_joined_16 17 rfl ?_
    refine y_istore cx d_X12_joined_17 19 rfl (by decide) (lv' := [(5, .int (zI 0)), (4, .int (zI v3_2)), (0, .ref (g.2.2 0)), (2, .int (zI a2)), (3, .int (zI v3_2))]) rfl ?_
    refine z_sub [2, 3, 4, 1, 0] rfl ?_
    refine lop2_f (P := fun (v3_5 : Int) (v5_6 : Int) => V p l e zrM_joined s m args below meth c A s.heap g 6 Q (wM g M) 0 0 [(0, .ref (g.2.2 0)), (2, .int (zI a2)), (3, .int (zI v3_5)), (4, .int (zI v3_2)), (5, .int (zI v5_6))] 19 []) (fun rec_7 hrec_7 v3_5 v5_6 h => ?_) _ _ _ h
    refine z_iload cx d_X12_joined_19 21 rfl 4 rfl ?_
    refine z_aload_n cx d_X12_joined_21 22 rfl rfl 0 rfl ?_
    refine y_callV_i (As := []) (rest := [.int (zI v5_6)]) (W := fun u_8 => wM g M) (rf := fun u_8 => zI u_8) (rm := zr0) cx (fun _ hq => tM_lines hq) d_X12_joined_22 25 rfl kk_X12_lines q_1582 q_1584 q_63 rfl e_M rfl ⟨rfl, rfl⟩ ⟨Nat.le_of_ble_eq_true rfl, Nat.le_of_ble_eq_true rfl⟩ rfl rfl (Nat.le_of_ble_eq_true rfl) ⟨Nat.zero_le _, Nat.zero_le _⟩ h (fun u_8 h => ?_)
    refine y_icmp_ge cx d_X12_joined_25 28 rfl 63 (by decide) rfl rfl h (fun h => ?_) (fun h => ?_)
    · refine z_goto cx d_X12_joined_63 7 (by decide) ?_
      refine z_sub [0, 1, 2, 3] rfl ?_
      exact hrec_4 _ _ h
    · refine z_iload_n cx d_X12_joined_28 29 rfl rfl 1 rfl ?_
      refine z_iload cx d_X12_joined_29 31 rfl 4 rfl ?_
      refine y_callS_i (As := [.int (zI a2), .int (zI v5_6)]) (rest := []) (W := fun u_9 => wM g M) (rf := fun u_9 => zI u_9) (rm := zr0) cx (fun _ hq => tM_has hq) d_X12_joined_31 34 rfl kk_X12_has q_1626 q_1627 ⟨rfl, rfl⟩ ⟨Nat.le_of_ble_eq_true rfl, Nat.le_of_ble_eq_true rfl⟩ rfl rfl (Nat.le_of_ble_eq_true rfl) ⟨Nat.zero_le _, Nat.zero_le _⟩ h (fun u_9 h => ?_)
      refine kf1_f (P := fun (v3_10 : Int) => V p l e zrM_joined s m args below meth c A s.heap g 6 Q (wM g M) 0 0 [(0, .ref (g.2.2 0)), (2, .int (zI a2)), (3, .int (zI v3_10)), (4, .int (zI v3_2)), (5, .int (zI v5_6))] 57 []) h (fun v3_10 h => ?_) (fun k_11 hk_11 h => ?_)
      · refine y_iinc cx 4 d_X12_joined_57 60 rfl rfl (by decide) (lv' := [(5, .int (zI (v5_6 + 1))), (0, .ref (g.2.2 0)), (2, .int (zI a2)), (3, .int (zI v3_10)), (4, .int (zI v3_2))]) rfl ?_
        refine z_goto cx d_X12_joined_60 19 (by decide) ?_
        refine z_sub [1, 2, 3, 4, 0] rfl ?_
        exact hrec_7 _ _ h
      refine y_if_eq cx d_X12_joined_34 37 rfl 57 (by decide) rfl h (fun h => ?_) (fun h => ?_)
      · exact hk_11 _ h
      · refine z_aload_n cx d_X12_joined_37 38 rfl rfl 0 rfl ?_
        refine z_iload cx d_X12_joined_38 40 rfl 4 rfl ?_
        refine y_callV_i (As := [.int (zI v5_6)]) (rest := []) (W := fun u_12 => wM g M) (rf := fun u_12 => zI u_12) (rm := zr0) cx (fun _ hq => tM_ends hq) d_X12_joined_40 43 rfl kk_X12_ends q_1629 q_1631 q_72 rfl e_M rfl ⟨rfl, rfl⟩ ⟨Nat.le_of_ble_eq_true rfl, Nat.le_of_ble_eq_true rfl⟩ rfl rfl (Nat.le_of_ble_eq_true rfl) ⟨Nat.zero_le _, Nat.zero_le _⟩ h (fun u_12 h => ?_)
        refine z_iload_n cx d_X12_joined_43 44 rfl rfl 2 rfl ?_
        refine y_iand cx d_X12_joined_44 45 rfl ?_
        refine y_if_eq cx d_X12_joined_45 48 rfl 57 (by decide) (nm_zand _ _) h (fun h => ?_) (fun h => ?_)
        · exact hk_11 _ h
        · refine z_iload_n cx d_X12_joined_48 49 rfl rfl 2 rfl ?_
          refine z_aload_n cx d_X12_joined_49 50 rfl rfl 0 rfl ?_
          refine z_iload cx d_X12_joined_50 52 rfl 4 rfl ?_
          refine y_callV_i (As := [.int (zI v5_6)]) (rest := [.int (zI v3_5)]) (W := fun u_13 => wM g M) (rf := fun u_13 => zI u_13) (rm := zr0) cx (fun _ hq => tM_ends hq) d_X12_joined_52 55 rfl kk_X12_ends q_1629 q_1631 q_72 rfl e_M rfl ⟨rfl, rfl⟩ ⟨Nat.le_of_ble_eq_true rfl, Nat.le_of_ble_eq_true rfl⟩ rfl rfl (Nat.le_of_ble_eq_true rfl) ⟨Nat.zero_le _, Nat.zero_le _⟩ h (fun u_13 h => ?_)
          refine y_ior cx d_X12_joined_55 56 rfl ?_
          refine y_istore_n_b cx d_X12_joined_56 57 rfl rfl (by decide) (fun y => [(3, .int (zI y)), (0, .ref (g.2.2 0)), (2, .int (zI a2)), (4, .int (zI v3_2)), (5, .int (zI v5_6))]) (fun y => rfl) h (fun v3_14 h => ?_)
          refine z_sub [1, 2, 0, 3, 4] rfl ?_
          exact hk_11 _ h
def zrM_ringIn : Room := { frames := 2, cells := 0, slots := 0, locals := 46 }
set_option maxHeartbeats 4000000 in
theorem tM_ringIn {l : Launch} {g : ZG} {M : ZB} {a1 : Int} {a2 : Int} {r : Int} (h : fM_ringIn M a1 a2 = some r) : zMi l yX12_ringIn cX12_ringIn 7 (some .int) zrM_ringIn g [.ref (g.2.2 0), .int (zI a1), .int (zI a2)] (wM g M) (wM g M) (zI r) := by
  unfold fM_ringIn at h
  refine zMi_q (own := RX12) rfl (by decide +kernel) (Nat.le_of_ble_eq_true rfl) (lv := [(0, .ref (g.2.2 0)), (1, .int (zI a1)), (2, .int (zI a2))]) rfl ⟨rfl, rfl⟩ ?_
  intro p e s m args below meth c A Q hQ cx
  refine z_aload_n cx d_X12_ringIn_0 1 rfl rfl 0 rfl ?_
  refine z_get cx d_X12_ringIn_1 4 rfl e_M rfl zX12 12 (by decide) q_1373 rfl rfl ?_
  refine y_iconst cx d_X12_ringIn_4 5 rfl ?_
  refine z_iload_n cx d_X12_ringIn_5 6 rfl rfl 1 rfl ?_
  refine y_iadd cx d_X12_ringIn_6 7 rfl ?_
  refine y_ialdx cx d_X12_ringIn_7 8 rfl e_M_now (by decide) h (fun x_1 h => ?_)
  refine y_istore_n cx d_X12_ringIn_8 9 rfl rfl (by decide) (lv' := [(3, .int (zI x_1)), (0, .ref (g.2.2 0)), (1, .int (zI a1)), (2, .int (zI a2))]) rfl ?_
  refine z_aload_n cx d_X12_ringIn_9 10 rfl rfl 1 rfl ?_
  refine z_get cx d_X12_ringIn_10 13 rfl e_M rfl zX12 12 (by decide) q_1373 rfl rfl ?_
  refine y_bipush cx d_X12_ringIn_13 15 rfl (by decide) ?_
  refine z_iload_n cx d_X12_ringIn_15 16 rfl rfl 2 rfl ?_
  refine y_iadd cx d_X12_ringIn_16 17 rfl ?_
  refine y_ialdx cx d_X12_ringIn_17 18 rfl e_M_now (by decide) h (fun x_2 h => ?_)
  refine y_istore cx d_X12_ringIn_18 20 rfl (by decide) (lv' := [(4, .int (zI x_2)), (3, .int (zI x_1)), (0, .ref (g.2.2 0)), (1, .int (zI a1)), (2, .int (zI a2))]) rfl ?_
  refine z_aload_n cx d_X12_ringIn_20 21 rfl rfl 2 rfl ?_
  refine z_iload_n cx d_X12_ringIn_21 22 rfl rfl 1 rfl ?_
  refine z_iload_n cx d_X12_ringIn_22 23 rfl rfl 4 rfl ?_
  refine y_callV_i (As := [.int (zI x_1), .int (zI a2)]) (rest := []) (W := fun u_3 => wM g M) (rf := fun u_3 => zI u_3) (rm := zrM_joined) cx (fun _ hq => tM_joined hq) d_X12_ringIn_23 26 rfl kk_X12_joined q_1622 q_1624 q_71 rfl e_M rfl ⟨rfl, rfl⟩ ⟨Nat.le_of_ble_eq_true rfl, Nat.le_of_ble_eq_true rfl⟩ rfl rfl (Nat.le_of_ble_eq_true rfl) ⟨Nat.zero_le _, Nat.zero_le _⟩ h (fun u_3 h => ?_)
  refine z_iload cx d_X12_ringIn_26 28 rfl 0 rfl ?_
  refine y_callS_i (As := [.int (zI u_3), .int (zI x_2)]) (rest := []) (W := fun u_4 => wM g M) (rf := fun u_4 => zI u_4) (rm := zr0) cx (fun _ hq => tM_has hq) d_X12_ringIn_28 31 rfl kk_X12_has q_1626 q_1627 ⟨rfl, rfl⟩ ⟨Nat.le_of_ble_eq_true rfl, Nat.le_of_ble_eq_true rfl⟩ rfl rfl (Nat.le_of_ble_eq_true rfl) ⟨Nat.zero_le _, Nat.zero_le _⟩ h (fun u_4 h => ?_)
  refine y_if_ne cx d_X12_ringIn_31 34 rfl 36 (by decide) rfl h (fun h => ?_) (fun h => ?_)
  · refine y_iconst cx d_X12_ringIn_36 37 rfl ?_
    refine y_istore cx d_X12_ringIn_37 39 rfl (by decide) (lv' := [(5, .int (zI 0)), (4, .int (zI x_2)), (3, .int (zI x_1)), (0, .ref (g.2.2 0)), (1, .int (zI a1)), (2, .int (zI a2))]) rfl ?_
    refine y_iconst cx d_X12_ringIn_39 40 rfl ?_
    refine y_istore cx d_X12_ringIn_40 42 rfl (by decide) (lv' := [(6, .int (zI 0)), (5, .int (zI 0)), (4, .int (zI x_2)), (3, .int (zI x_1)), (0, .ref (g.2.2 0)), (1, .int (zI a1)), (2, .int (zI a2))]) rfl ?_
    refine z_sub [4, 6, 3, 2, 1, 0] rfl ?_
    refine lop2_f (P := fun (v5_5 : Int) (v6_6 : Int) => V p l e zrM_ringIn s m args below meth c A s.heap g 7 Q (wM g M) 0 0 [(0, .ref (g.2.2 0)), (2, .int (zI a2)), (3, .int (zI x_1)), (4, .int (zI x_2)), (5, .int (zI v5_5)), (6, .int (zI v6_6))] 42 []) (fun rec_7 hrec_7 v5_5 v6_6 h => ?_) _ _ _ h
    refine z_iload cx d_X12_ringIn_42 44 rfl 5 rfl ?_
    refine z_aload_n cx d_X12_ringIn_44 45 rfl rfl 0 rfl ?_
    refine y_callV_i (As := []) (rest := [.int (zI v6_6)]) (W := fun u_8 => wM g M) (rf := fun u_8 => zI u_8) (rm := zr0) cx (fun _ hq => tM_lines hq) d_X12_ringIn_45 48 rfl kk_X12_lines q_1582 q_1584 q_63 rfl e_M rfl ⟨rfl, rfl⟩ ⟨Nat.le_of_ble_eq_true rfl, Nat.le_of_ble_eq_true rfl⟩ rfl rfl (Nat.le_of_ble_eq_true rfl) ⟨Nat.zero_le _, Nat.zero_le _⟩ h (fun u_8 h => ?_)
    refine y_icmp_ge cx d_X12_ringIn_48 51 rfl 96 (by decide) rfl rfl h (fun h => ?_) (fun h => ?_)
    · refine z_iload cx d_X12_ringIn_96 98 rfl 4 rfl ?_
      subst hQ
      obtain rfl := Option.some.inj h
      exact z_iret cx d_X12_ringIn_98 rfl rfl
    · refine z_iload_n cx d_X12_ringIn_51 52 rfl rfl 1 rfl ?_
      refine z_iload cx d_X12_ringIn_52 54 rfl 5 rfl ?_
      refine y_callS_i (As := [.int (zI a2), .int (zI v6_6)]) (rest := []) (W := fun u_9 => wM g M) (rf := fun u_9 => zI u_9) (rm := zr0) cx (fun _ hq => tM_has hq) d_X12_ringIn_54 57 rfl kk_X12_has q_1626 q_1627 ⟨rfl, rfl⟩ ⟨Nat.le_of_ble_eq_true rfl, Nat.le_of_ble_eq_true rfl⟩ rfl rfl (Nat.le_of_ble_eq_true rfl) ⟨Nat.zero_le _, Nat.zero_le _⟩ h (fun u_9 h => ?_)
      refine kf1_f (P := fun (v5_10 : Int) => V p l e zrM_ringIn s m args below meth c A s.heap g 7 Q (wM g M) 0 0 [(0, .ref (g.2.2 0)), (2, .int (zI a2)), (3, .int (zI x_1)), (4, .int (zI x_2)), (5, .int (zI v5_10)), (6, .int (zI v6_6))] 90 []) h (fun v5_10 h => ?_) (fun k_11 hk_11 h => ?_)
      · refine y_iinc cx 5 d_X12_ringIn_90 93 rfl rfl (by decide) (lv' := [(6, .int (zI (v6_6 + 1))), (0, .ref (g.2.2 0)), (2, .int (zI a2)), (3, .int (zI x_1)), (4, .int (zI x_2)), (5, .int (zI v5_10))]) rfl ?_
        refine z_goto cx d_X12_ringIn_93 42 (by decide) ?_
        refine z_sub [1, 2, 3, 4, 5, 0] rfl ?_
        exact hrec_7 _ _ h
      refine y_if_eq cx d_X12_ringIn_57 60 rfl 90 (by decide) rfl h (fun h => ?_) (fun h => ?_)
      · exact hk_11 _ h
      · refine z_aload_n cx d_X12_ringIn_60 61 rfl rfl 0 rfl ?_
        refine z_iload_n cx d_X12_ringIn_61 62 rfl rfl 2 rfl ?_
        refine z_iload_n cx d_X12_ringIn_62 63 rfl rfl 1 rfl ?_
        refine y_iconst cx d_X12_ringIn_63 64 rfl ?_
        refine z_iload cx d_X12_ringIn_64 66 rfl 5 rfl ?_
        refine y_ishl cx d_X12_ringIn_66 67 rfl ?_
        refine y_iconst cx d_X12_ringIn_67 68 rfl ?_
        refine y_ixor cx d_X12_ringIn_68 69 rfl ?_
        refine y_iand cx d_X12_ringIn_69 70 rfl ?_
        refine y_callV_i (As := [.int (zI x_1), .int (zI (zand a2 (zxor (zshl 1 v6_6) (-1))))]) (rest := []) (W := fun u_12 => wM g M) (rf := fun u_12 => zI u_12) (rm := zrM_joined) cx (fun _ hq => tM_joined hq) d_X12_ringIn_70 73 rfl kk_X12_joined q_1622 q_1624 q_71 rfl e_M rfl ⟨rfl, rfl⟩ ⟨Nat.le_of_ble_eq_true rfl, Nat.le_of_ble_eq_true rfl⟩ rfl rfl (Nat.le_of_ble_eq_true rfl) ⟨Nat.zero_le _, Nat.zero_le _⟩ h (fun u_12 h => ?_)
        refine z_iload cx d_X12_ringIn_73 75 rfl 3 rfl ?_
        refine y_callS_i (As := [.int (zI u_12), .int (zI x_2)]) (rest := []) (W := fun u_13 => wM g M) (rf := fun u_13 => zI u_13) (rm := zr0) cx (fun _ hq => tM_has hq) d_X12_ringIn_75 78 rfl kk_X12_has q_1626 q_1627 ⟨rfl, rfl⟩ ⟨Nat.le_of_ble_eq_true rfl, Nat.le_of_ble_eq_true rfl⟩ rfl rfl (Nat.le_of_ble_eq_true rfl) ⟨Nat.zero_le _, Nat.zero_le _⟩ h (fun u_13 h => ?_)
        refine y_if_ne cx d_X12_ringIn_78 81 rfl 90 (by decide) rfl h (fun h => ?_) (fun h => ?_)
        · exact hk_11 _ h
        · refine z_iload cx d_X12_ringIn_81 83 rfl 4 rfl ?_
          refine y_iconst cx d_X12_ringIn_83 84 rfl ?_
          refine z_iload cx d_X12_ringIn_84 86 rfl 5 rfl ?_
          refine y_ishl cx d_X12_ringIn_86 87 rfl ?_
          refine y_ior cx d_X12_ringIn_87 88 rfl ?_
          refine y_istore_b cx d_X12_ringIn_88 90 rfl (by decide) (fun y => [(5, .int (zI y)), (0, .ref (g.2.2 0)), (2, .int (zI a2)), (3, .int (zI x_1)), (4, .int (zI x_2)), (6, .int (zI v6_6))]) (fun y => rfl) h (fun v5_14 h => ?_)
          refine z_sub [1, 2, 3, 4, 0, 5] rfl ?_
          exact hk_11 _ h
  · refine y_iconst cx d_X12_ringIn_34 35 rfl ?_
    subst hQ
    obtain rfl := Option.some.inj h
    exact z_iret cx d_X12_ringIn_35 rfl rfl
def zrM_ring : Room := { frames := 3, cells := 0, slots := 0, locals := 72 }
set_option maxHeartbeats 4000000 in
theorem tM_ring {l : Launch} {g : ZG} {M : ZB} {a1 : Int} {a2 : Int} {r : Int × ZB} (h : fM_ring M a1 a2 = some r) : zMi l yX12_ring cX12_ring 3 (some .int) zrM_ring g [.ref (g.2.2 0), .int (zI a1), .int (zI a2)] (wM g M) (wM g r.2) (zI r.1) := by
  unfold fM_ring at h
  refine zMi_q (own := RX12) rfl (by decide +kernel) (Nat.le_of_ble_eq_true rfl) (lv := [(0, .ref (g.2.2 0)), (1, .int (zI a1)), (2, .int (zI a2))]) rfl ⟨rfl, rfl⟩ ?_
  intro p e s m args below meth c A Q hQ cx
  refine z_aload_n cx d_X12_ring_0 1 rfl rfl 0 rfl ?_
  refine y_iconst cx d_X12_ring_1 2 rfl ?_
  refine y_put cx d_X12_ring_2 5 rfl e_M rfl zX12 tyX12_ok nmX12 0 (by decide) q_1361 rfl rfl rfl rfl (Nat.le_of_ble_eq_true rfl) h (fun _ h9 => s_M_0 h9) (fun M_1 h => ?_)
  refine z_aload_n cx d_X12_ring_5 6 rfl rfl 0 rfl ?_
  refine z_iload_n cx d_X12_ring_6 7 rfl rfl 1 rfl ?_
  refine y_callV_i (As := [.int (zI a1)]) (rest := []) (W := fun u_2 => wM g M_1) (rf := fun u_2 => zI u_2) (rm := zrM_isLine) cx (fun _ hq => tM_isLine hq) d_X12_ring_7 10 rfl kk_X12_isLine q_1594 q_1596 q_65 rfl e_M rfl ⟨rfl, rfl⟩ ⟨Nat.le_of_ble_eq_true rfl, Nat.le_of_ble_eq_true rfl⟩ rfl rfl (Nat.le_of_ble_eq_true rfl) ⟨Nat.zero_le _, Nat.zero_le _⟩ h (fun u_2 h => ?_)
  refine kf0_f (P := V p l e zrM_ring s m args below meth c A s.heap g 3 Q (wM g M_1) 0 0 [(0, .ref (g.2.2 0))] 38 []) h (fun h => ?_) (fun k_3 hk_3 h => ?_)
  · refine z_aload_n cx d_X12_ring_38 39 rfl rfl 0 rfl ?_
    refine y_callV_i (As := []) (rest := []) (W := fun u_4 => wM g u_4.2) (rf := fun u_4 => zI u_4.1) (rm := zr0) cx (fun _ hq => tM_refuse hq) d_X12_ring_39 42 rfl kk_X12_refuse q_1598 q_1600 q_66 rfl e_M rfl ⟨rfl, rfl⟩ ⟨Nat.le_of_ble_eq_true rfl, Nat.le_of_ble_eq_true rfl⟩ rfl rfl (Nat.le_of_ble_eq_true rfl) ⟨Nat.zero_le _, Nat.zero_le _⟩ h (fun u_4 h => ?_)
    subst hQ
    obtain rfl := Option.some.inj h
    exact z_iret cx d_X12_ring_42 rfl rfl
  refine y_if_eq cx d_X12_ring_10 13 rfl 38 (by decide) rfl h (fun h => ?_) (fun h => ?_)
  · refine z_sub [0] rfl ?_
    exact hk_3  h
  · refine z_aload_n cx d_X12_ring_13 14 rfl rfl 0 rfl ?_
    refine z_iload_n cx d_X12_ring_14 15 rfl rfl 2 rfl ?_
    refine y_callV_i (As := [.int (zI a2)]) (rest := []) (W := fun u_5 => wM g M_1) (rf := fun u_5 => zI u_5) (rm := zrM_isForest) cx (fun _ hq => tM_isForest hq) d_X12_ring_15 18 rfl kk_X12_isForest q_1606 q_1608 q_67 rfl e_M rfl ⟨rfl, rfl⟩ ⟨Nat.le_of_ble_eq_true rfl, Nat.le_of_ble_eq_true rfl⟩ rfl rfl (Nat.le_of_ble_eq_true rfl) ⟨Nat.zero_le _, Nat.zero_le _⟩ h (fun u_5 h => ?_)
    refine y_if_eq cx d_X12_ring_18 21 rfl 38 (by decide) rfl h (fun h => ?_) (fun h => ?_)
    · refine z_sub [0] rfl ?_
      exact hk_3  h
    · refine z_aload_n cx d_X12_ring_21 22 rfl rfl 0 rfl ?_
      refine z_iload_n cx d_X12_ring_22 23 rfl rfl 1 rfl ?_
      refine y_callV_i (As := [.int (zI a1)]) (rest := []) (W := fun u_6 => wM g M_1) (rf := fun u_6 => zI u_6) (rm := zr0) cx (fun _ hq => tM_isBroken hq) d_X12_ring_23 26 rfl kk_X12_isBroken q_1610 q_1612 q_68 rfl e_M rfl ⟨rfl, rfl⟩ ⟨Nat.le_of_ble_eq_true rfl, Nat.le_of_ble_eq_true rfl⟩ rfl rfl (Nat.le_of_ble_eq_true rfl) ⟨Nat.zero_le _, Nat.zero_le _⟩ h (fun u_6 h => ?_)
      refine y_if_ne cx d_X12_ring_26 29 rfl 38 (by decide) rfl h (fun h => ?_) (fun h => ?_)
      · refine z_sub [0] rfl ?_
        exact hk_3  h
      · refine z_aload_n cx d_X12_ring_29 30 rfl rfl 0 rfl ?_
        refine z_iload_n cx d_X12_ring_30 31 rfl rfl 1 rfl ?_
        refine y_callV_i (As := [.int (zI a1)]) (rest := []) (W := fun u_7 => wM g M_1) (rf := fun u_7 => zI u_7) (rm := zr0) cx (fun _ hq => tM_lies hq) d_X12_ring_31 34 rfl kk_X12_lies q_1586 q_1588 q_64 rfl e_M rfl ⟨rfl, rfl⟩ ⟨Nat.le_of_ble_eq_true rfl, Nat.le_of_ble_eq_true rfl⟩ rfl rfl (Nat.le_of_ble_eq_true rfl) ⟨Nat.zero_le _, Nat.zero_le _⟩ h (fun u_7 h => ?_)
        refine z_iload_n cx d_X12_ring_34 35 rfl rfl 2 rfl ?_
        refine y_icmp_ne cx d_X12_ring_35 38 rfl 43 (by decide) rfl rfl h (fun h => ?_) (fun h => ?_)
        · refine z_aload_n cx d_X12_ring_43 44 rfl rfl 0 rfl ?_
          refine z_iload_n cx d_X12_ring_44 45 rfl rfl 1 rfl ?_
          refine z_aload_n cx d_X12_ring_45 46 rfl rfl 0 rfl ?_
          refine z_iload_n cx d_X12_ring_46 47 rfl rfl 2 rfl ?_
          refine y_callV_i (As := [.int (zI a2)]) (rest := [.int (zI a1), .ref (g.2.2 0)]) (W := fun u_8 => wM g M_1) (rf := fun u_8 => zI u_8) (rm := zrM_inForest) cx (fun _ hq => tM_inForest hq) d_X12_ring_47 50 rfl kk_X12_inForest q_1614 q_1616 q_69 rfl e_M rfl ⟨rfl, rfl⟩ ⟨Nat.le_of_ble_eq_true rfl, Nat.le_of_ble_eq_true rfl⟩ rfl rfl (Nat.le_of_ble_eq_true rfl) ⟨Nat.zero_le _, Nat.zero_le _⟩ h (fun u_8 h => ?_)
          refine y_callV_i (As := [.int (zI a1), .int (zI u_8)]) (rest := []) (W := fun u_9 => wM g M_1) (rf := fun u_9 => zI u_9) (rm := zrM_ringIn) cx (fun _ hq => tM_ringIn hq) d_X12_ring_50 53 rfl kk_X12_ringIn q_1618 q_1620 q_70 rfl e_M rfl ⟨rfl, rfl⟩ ⟨Nat.le_of_ble_eq_true rfl, Nat.le_of_ble_eq_true rfl⟩ rfl rfl (Nat.le_of_ble_eq_true rfl) ⟨Nat.zero_le _, Nat.zero_le _⟩ h (fun u_9 h => ?_)
          subst hQ
          obtain rfl := Option.some.inj h
          exact z_iret cx d_X12_ring_53 rfl rfl
        · refine z_sub [0] rfl ?_
          exact hk_3  h
