-- needs: 10.anet
set_option maxHeartbeats 4000000 in
theorem tRd_isBlank {l : Launch} {g : ZG} {w : va_W} {a1 : Int} {r : Int} (h : fRd_isBlank a1 = some r) : zMi l yX9_isBlank cX9_isBlank 1 (some .boolean) zr0 g [.int (zI a1)] (w) (w) (zI r) := by
  unfold fRd_isBlank at h
  refine zMi_q (own := RX9) rfl (by decide +kernel) (Nat.le_of_ble_eq_true rfl) (lv := [(0, .int (zI a1))]) rfl ⟨rfl, rfl⟩ ?_
  intro p e s m args below meth c A Q hQ cx
  refine z_iload_n cx d_X9_isBlank_0 1 rfl rfl 0 rfl ?_
  refine y_bipush cx d_X9_isBlank_1 3 rfl (by decide) ?_
  refine kf1_f (P := fun (w0_1 : Int) => V p l e zr0 s m args below meth c A s.heap g 1 Q (w) 0 0 [] 17 [.int (zI w0_1)]) h (fun w0_1 h => ?_) (fun k_2 hk_2 h => ?_)
  · obtain ⟨hz, h⟩ := zo_i h
    subst hQ
    obtain rfl := Option.some.inj h
    exact z_zret cx d_X9_isBlank_17 (zb01 hz) rfl rfl
  refine kf0_f (P := V p l e zr0 s m args below meth c A s.heap g 1 Q (w) 0 0 [] 12 []) h (fun h => ?_) (fun k_3 hk_3 h => ?_)
  · refine y_iconst cx d_X9_isBlank_12 13 rfl ?_
    refine z_goto cx d_X9_isBlank_13 17 (by decide) ?_
    exact hk_2 _ h
  refine y_icmp_eq cx d_X9_isBlank_3 6 rfl 12 (by decide) rfl (nm_eq (x := 32) (by decide) (by decide)) h (fun h => ?_) (fun h => ?_)
  · refine z_sub [] rfl ?_
    exact hk_3  h
  · refine z_iload_n cx d_X9_isBlank_6 7 rfl rfl 0 rfl ?_
    refine y_bipush cx d_X9_isBlank_7 9 rfl (by decide) ?_
    refine y_icmp_ne cx d_X9_isBlank_9 12 rfl 16 (by decide) rfl (nm_eq (x := 10) (by decide) (by decide)) h (fun h => ?_) (fun h => ?_)
    · refine y_iconst cx d_X9_isBlank_16 17 rfl ?_
      refine z_sub [] rfl ?_
      exact hk_2 _ h
    · refine z_sub [] rfl ?_
      exact hk_3  h
set_option maxHeartbeats 4000000 in
theorem tRd_isLetter {l : Launch} {g : ZG} {w : va_W} {a1 : Int} {r : Int} (h : fRd_isLetter a1 = some r) : zMi l yX9_isLetter cX9_isLetter 1 (some .boolean) zr0 g [.int (zI a1)] (w) (w) (zI r) := by
  unfold fRd_isLetter at h
  refine zMi_q (own := RX9) rfl (by decide +kernel) (Nat.le_of_ble_eq_true rfl) (lv := [(0, .int (zI a1))]) rfl ⟨rfl, rfl⟩ ?_
  intro p e s m args below meth c A Q hQ cx
  refine z_iload_n cx d_X9_isLetter_0 1 rfl rfl 0 rfl ?_
  refine y_bipush cx d_X9_isLetter_1 3 rfl (by decide) ?_
  refine kf1_f (P := fun (w0_1 : Int) => V p l e zr0 s m args below meth c A s.heap g 1 Q (w) 0 0 [] 17 [.int (zI w0_1)]) h (fun w0_1 h => ?_) (fun k_2 hk_2 h => ?_)
  · obtain ⟨hz, h⟩ := zo_i h
    subst hQ
    obtain rfl := Option.some.inj h
    exact z_zret cx d_X9_isLetter_17 (zb01 hz) rfl rfl
  refine kf0_f (P := V p l e zr0 s m args below meth c A s.heap g 1 Q (w) 0 0 [] 16 []) h (fun h => ?_) (fun k_3 hk_3 h => ?_)
  · refine y_iconst cx d_X9_isLetter_16 17 rfl ?_
    exact hk_2 _ h
  refine y_icmp_lt cx d_X9_isLetter_3 6 rfl 16 (by decide) rfl (nm_eq (x := 97) (by decide) (by decide)) h (fun h => ?_) (fun h => ?_)
  · refine z_sub [] rfl ?_
    exact hk_3  h
  · refine z_iload_n cx d_X9_isLetter_6 7 rfl rfl 0 rfl ?_
    refine y_bipush cx d_X9_isLetter_7 9 rfl (by decide) ?_
    refine y_icmp_gt cx d_X9_isLetter_9 12 rfl 16 (by decide) rfl (nm_eq (x := 122) (by decide) (by decide)) h (fun h => ?_) (fun h => ?_)
    · refine z_sub [] rfl ?_
      exact hk_3  h
    · refine y_iconst cx d_X9_isLetter_12 13 rfl ?_
      refine z_goto cx d_X9_isLetter_13 17 (by decide) ?_
      refine z_sub [] rfl ?_
      exact hk_2 _ h
set_option maxHeartbeats 4000000 in
theorem tRd_isDigit {l : Launch} {g : ZG} {w : va_W} {a1 : Int} {r : Int} (h : fRd_isDigit a1 = some r) : zMi l yX9_isDigit cX9_isDigit 1 (some .boolean) zr0 g [.int (zI a1)] (w) (w) (zI r) := by
  unfold fRd_isDigit at h
  refine zMi_q (own := RX9) rfl (by decide +kernel) (Nat.le_of_ble_eq_true rfl) (lv := [(0, .int (zI a1))]) rfl ⟨rfl, rfl⟩ ?_
  intro p e s m args below meth c A Q hQ cx
  refine z_iload_n cx d_X9_isDigit_0 1 rfl rfl 0 rfl ?_
  refine y_bipush cx d_X9_isDigit_1 3 rfl (by decide) ?_
  refine kf1_f (P := fun (w0_1 : Int) => V p l e zr0 s m args below meth c A s.heap g 1 Q (w) 0 0 [] 17 [.int (zI w0_1)]) h (fun w0_1 h => ?_) (fun k_2 hk_2 h => ?_)
  · obtain ⟨hz, h⟩ := zo_i h
    subst hQ
    obtain rfl := Option.some.inj h
    exact z_zret cx d_X9_isDigit_17 (zb01 hz) rfl rfl
  refine kf0_f (P := V p l e zr0 s m args below meth c A s.heap g 1 Q (w) 0 0 [] 16 []) h (fun h => ?_) (fun k_3 hk_3 h => ?_)
  · refine y_iconst cx d_X9_isDigit_16 17 rfl ?_
    exact hk_2 _ h
  refine y_icmp_lt cx d_X9_isDigit_3 6 rfl 16 (by decide) rfl (nm_eq (x := 48) (by decide) (by decide)) h (fun h => ?_) (fun h => ?_)
  · refine z_sub [] rfl ?_
    exact hk_3  h
  · refine z_iload_n cx d_X9_isDigit_6 7 rfl rfl 0 rfl ?_
    refine y_bipush cx d_X9_isDigit_7 9 rfl (by decide) ?_
    refine y_icmp_gt cx d_X9_isDigit_9 12 rfl 16 (by decide) rfl (nm_eq (x := 57) (by decide) (by decide)) h (fun h => ?_) (fun h => ?_)
    · refine z_sub [] rfl ?_
      exact hk_3  h
    · refine y_iconst cx d_X9_isDigit_12 13 rfl ?_
      refine z_goto cx d_X9_isDigit_13 17 (by decide) ?_
      refine z_sub [] rfl ?_
      exact hk_2 _ h
set_option maxHeartbeats 4000000 in
theorem tRd_letterCode {l : Launch} {g : ZG} {w : va_W} {a1 : Int} {r : Int} (h : fRd_letterCode a1 = some r) : zMi l yX9_letterCode cX9_letterCode 1 (some .int) zr0 g [.int (zI a1)] (w) (w) (zI r) := by
  unfold fRd_letterCode at h
  refine zMi_q (own := RX9) rfl (by decide +kernel) (Nat.le_of_ble_eq_true rfl) (lv := [(0, .int (zI a1))]) rfl ⟨rfl, rfl⟩ ?_
  intro p e s m args below meth c A Q hQ cx
  refine z_iload_n cx d_X9_letterCode_0 1 rfl rfl 0 rfl ?_
  refine y_bipush cx d_X9_letterCode_1 3 rfl (by decide) ?_
  refine y_isub cx d_X9_letterCode_3 4 rfl ?_
  refine y_iconst cx d_X9_letterCode_4 5 rfl ?_
  refine y_iadd cx d_X9_letterCode_5 6 rfl ?_
  subst hQ
  obtain rfl := Option.some.inj h
  exact z_iret cx d_X9_letterCode_6 rfl rfl
def zrRd_readRun : Room := { frames := 1, cells := 0, slots := 0, locals := 21 }
set_option maxHeartbeats 4000000 in
theorem tRd_readRun {l : Launch} {g : ZG} {X : ZB} {N : ZB} {T : ZB} {Rd : ZB} {Fr : ZB} {Ac : ZA} {Ch : ZB} {PS : ZB} {Ly : ZB} {Pa : ZQ} {OT : ZB} {Ea : ZB} {Ga : ZB} {Im0 : ZO} {Im1 : ZO} {La : ZB}  {r : ZB} (h : fRd_readRun T Rd = some r) : zMv l yX9_readRun cX9_readRun 4 none zrRd_readRun g [.ref (g.2.2 8)] (wX g X N T Rd Fr Ac Ch PS Ly Pa OT Ea Ga Im0 Im1 La) (wX g X N T r Fr Ac Ch PS Ly Pa OT Ea Ga Im0 Im1 La) := by
  unfold fRd_readRun at h
  refine zMv_q (own := RX9) rfl (by decide +kernel) (Nat.le_of_ble_eq_true rfl) (lv := [(0, .ref (g.2.2 8))]) rfl ⟨rfl, rfl⟩ ?_
  intro p e s m args below meth c A Q hQ cx
  refine y_iconst cx d_X9_readRun_0 1 rfl ?_
  refine y_istore_n cx d_X9_readRun_1 2 rfl rfl (by decide) (lv' := [(1, .int (zI 0)), (0, .ref (g.2.2 8))]) rfl ?_
  refine y_iconst cx d_X9_readRun_2 3 rfl ?_
  refine y_istore_n cx d_X9_readRun_3 4 rfl rfl (by decide) (lv' := [(2, .int (zI 0)), (1, .int (zI 0)), (0, .ref (g.2.2 8))]) rfl ?_
  refine z_aload_n cx d_X9_readRun_4 5 rfl rfl 2 rfl ?_
  refine y_lconst cx 0 d_X9_readRun_5 6 rfl (by decide) ?_
  refine y_put cx d_X9_readRun_6 9 rfl e_Rd rfl zX9 tyX9_ok nmX9 10 (by decide) q_203 rfl rfl rfl rfl (Nat.le_of_ble_eq_true rfl) h (fun _ h9 => s_Rd_10 h9) (fun Rd_1 h => ?_)
  refine z_sub [2, 1, 0] rfl ?_
  refine lop3_f (P := fun (v1_2 : Int) (v2_3 : Int) (Rd_4 : ZB) => V p l e zrRd_readRun s m args below meth c A s.heap g 4 Q (wX g X N T Rd_4 Fr Ac Ch PS Ly Pa OT Ea Ga Im0 Im1 La) 0 0 [(0, .ref (g.2.2 8)), (1, .int (zI v1_2)), (2, .int (zI v2_3))] 9 []) (fun rec_5 hrec_5 v1_2 v2_3 Rd_4 h => ?_) _ _ _ _ h
  refine z_aload_n cx d_X9_readRun_9 10 rfl rfl 0 rfl ?_
  refine z_get cx d_X9_readRun_10 13 rfl e_Rd rfl zX9 7 (by decide) q_200 rfl rfl ?_
  refine z_aload_n cx d_X9_readRun_13 14 rfl rfl 0 rfl ?_
  refine z_get cx d_X9_readRun_14 17 rfl e_Rd rfl zX9 0 (by decide) q_193 rfl rfl ?_
  refine y_callV_i (As := []) (rest := [.int (zI (Rd_4.1 7))]) (W := fun u_6 => wX g X N T Rd_4 Fr Ac Ch PS Ly Pa OT Ea Ga Im0 Im1 La) (rf := fun u_6 => zI u_6) (rm := zr0) cx (fun _ hq => tT_size hq) d_X9_readRun_17 20 rfl kk_X10_size q_750 q_715 q_716 rfl e_T rfl ⟨rfl, rfl⟩ ⟨Nat.le_of_ble_eq_true rfl, Nat.le_of_ble_eq_true rfl⟩ rfl rfl (Nat.le_of_ble_eq_true rfl) ⟨Nat.zero_le _, Nat.zero_le _⟩ h (fun u_6 h => ?_)
  refine kf0_f (P := V p l e zrRd_readRun s m args below meth c A s.heap g 4 Q (wX g X N T Rd_4 Fr Ac Ch PS Ly Pa OT Ea Ga Im0 Im1 La) 0 0 [(0, .ref (g.2.2 8)), (1, .int (zI v1_2)), (2, .int (zI v2_3))] 108 []) h (fun h => ?_) (fun k_7 hk_7 h => ?_)
  · refine z_aload_n cx d_X9_readRun_108 109 rfl rfl 0 rfl ?_
    refine y_iconst cx d_X9_readRun_109 110 rfl ?_
    refine y_put cx d_X9_readRun_110 113 rfl e_Rd rfl zX9 tyX9_ok nmX9 8 (by decide) q_201 rfl rfl rfl rfl (Nat.le_of_ble_eq_true rfl) h (fun _ h9 => s_Rd_8 h9) (fun Rd_8 h => ?_)
    refine z_iload_n cx d_X9_readRun_113 114 rfl rfl 2 rfl ?_
    refine kf1_f (P := fun (Rd_9 : ZB) => V p l e zrRd_readRun s m args below meth c A s.heap g 4 Q (wX g X N T Rd_9 Fr Ac Ch PS Ly Pa OT Ea Ga Im0 Im1 La) 0 0 [] 155 []) h (fun Rd_9 h => ?_) (fun k_10 hk_10 h => ?_)
    · subst hQ
      obtain rfl := Option.some.inj h
      exact z_vret cx d_X9_readRun_155 rfl
    refine kf0_f (P := V p l e zrRd_readRun s m args below meth c A s.heap g 4 Q (wX g X N T Rd_8 Fr Ac Ch PS Ly Pa OT Ea Ga Im0 Im1 La) 0 0 [(0, .ref (g.2.2 8)), (1, .int (zI v1_2)), (2, .int (zI v2_3))] 136 []) h (fun h => ?_) (fun k_11 hk_11 h => ?_)
    · refine z_iload_n cx d_X9_readRun_136 137 rfl rfl 1 rfl ?_
      refine y_if_ne cx d_X9_readRun_137 140 rfl 155 (by decide) rfl h (fun h => ?_) (fun h => ?_)
      · refine z_sub [] rfl ?_
        exact hk_10 _ h
      · refine z_iload_n cx d_X9_readRun_140 141 rfl rfl 2 rfl ?_
        refine y_iconst cx d_X9_readRun_141 142 rfl ?_
        refine y_icmp_lt cx d_X9_readRun_142 145 rfl 155 (by decide) rfl (nm_eq (x := 1) (by decide) (by decide)) h (fun h => ?_) (fun h => ?_)
        · refine z_sub [] rfl ?_
          exact hk_10 _ h
        · refine z_iload_n cx d_X9_readRun_145 146 rfl rfl 2 rfl ?_
          refine y_iconst cx d_X9_readRun_146 147 rfl ?_
          refine y_icmp_gt cx d_X9_readRun_147 150 rfl 155 (by decide) rfl (nm_eq (x := 2) (by decide) (by decide)) h (fun h => ?_) (fun h => ?_)
          · refine z_sub [] rfl ?_
            exact hk_10 _ h
          · refine z_aload_n cx d_X9_readRun_150 151 rfl rfl 0 rfl ?_
            refine y_iconst cx d_X9_readRun_151 152 rfl ?_
            refine y_put cx d_X9_readRun_152 155 rfl e_Rd rfl zX9 tyX9_ok nmX9 8 (by decide) q_201 rfl rfl rfl rfl (Nat.le_of_ble_eq_true rfl) h (fun _ h9 => s_Rd_8 h9) (fun Rd_12 h => ?_)
            refine z_sub [] rfl ?_
            exact hk_10 _ h
    refine y_if_ne cx d_X9_readRun_114 117 rfl 136 (by decide) rfl h (fun h => ?_) (fun h => ?_)
    · exact hk_11  h
    · refine z_iload_n cx d_X9_readRun_117 118 rfl rfl 1 rfl ?_
      refine y_iconst cx d_X9_readRun_118 119 rfl ?_
      refine y_icmp_lt cx d_X9_readRun_119 122 rfl 136 (by decide) rfl (nm_eq (x := 1) (by decide) (by decide)) h (fun h => ?_) (fun h => ?_)
      · exact hk_11  h
      · refine z_iload_n cx d_X9_readRun_122 123 rfl rfl 1 rfl ?_
        refine y_bipush cx d_X9_readRun_123 125 rfl (by decide) ?_
        refine y_icmp_gt cx d_X9_readRun_125 128 rfl 136 (by decide) rfl (nm_eq (x := 7) (by decide) (by decide)) h (fun h => ?_) (fun h => ?_)
        · exact hk_11  h
        · refine z_aload_n cx d_X9_readRun_128 129 rfl rfl 0 rfl ?_
          refine y_iconst cx d_X9_readRun_129 130 rfl ?_
          refine y_put cx d_X9_readRun_130 133 rfl e_Rd rfl zX9 tyX9_ok nmX9 8 (by decide) q_201 rfl rfl rfl rfl (Nat.le_of_ble_eq_true rfl) h (fun _ h9 => s_Rd_8 h9) (fun Rd_13 h => ?_)
          refine z_goto cx d_X9_readRun_133 155 (by decide) ?_
          refine z_sub [] rfl ?_
          exact hk_10 _ h
  refine y_icmp_ge cx d_X9_readRun_20 23 rfl 108 (by decide) rfl rfl h (fun h => ?_) (fun h => ?_)
  · exact hk_7  h
  · refine z_aload_n cx d_X9_readRun_23 24 rfl rfl 0 rfl ?_
    refine z_get cx d_X9_readRun_24 27 rfl e_Rd rfl zX9 0 (by decide) q_193 rfl rfl ?_
    refine z_aload_n cx d_X9_readRun_27 28 rfl rfl 0 rfl ?_
    refine z_get cx d_X9_readRun_28 31 rfl e_Rd rfl zX9 7 (by decide) q_200 rfl rfl ?_
    refine y_callV_i (As := [.int (zI (Rd_4.1 7))]) (rest := []) (W := fun u_14 => wX g X N T Rd_4 Fr Ac Ch PS Ly Pa OT Ea Ga Im0 Im1 La) (rf := fun u_14 => zI u_14) (rm := zr0) cx (fun _ hq => tT_byteAt hq) d_X9_readRun_31 34 rfl kk_X10_byteAt q_754 q_755 q_756 rfl e_T rfl ⟨rfl, rfl⟩ ⟨Nat.le_of_ble_eq_true rfl, Nat.le_of_ble_eq_true rfl⟩ rfl rfl (Nat.le_of_ble_eq_true rfl) ⟨Nat.zero_le _, Nat.zero_le _⟩ h (fun u_14 h => ?_)
    refine y_istore_n cx d_X9_readRun_34 35 rfl rfl (by decide) (lv' := [(3, .int (zI u_14)), (0, .ref (g.2.2 8)), (1, .int (zI v1_2)), (2, .int (zI v2_3))]) rfl ?_
    refine z_iload_n cx d_X9_readRun_35 36 rfl rfl 0 rfl ?_
    refine y_callS_i (As := [.int (zI u_14)]) (rest := []) (W := fun u_15 => wX g X N T Rd_4 Fr Ac Ch PS Ly Pa OT Ea Ga Im0 Im1 La) (rf := fun u_15 => zI u_15) (rm := zr0) cx (fun _ hq => tRd_isLetter hq) d_X9_readRun_36 39 rfl kk_X9_isLetter q_765 q_766 ⟨rfl, rfl⟩ ⟨Nat.le_of_ble_eq_true rfl, Nat.le_of_ble_eq_true rfl⟩ rfl rfl (Nat.le_of_ble_eq_true rfl) ⟨Nat.zero_le _, Nat.zero_le _⟩ h (fun u_15 h => ?_)
    refine kf3_f (P := fun (v1_16 : Int) (v2_17 : Int) (Rd_18 : ZB) => V p l e zrRd_readRun s m args below meth c A s.heap g 4 Q (wX g X N T Rd_18 Fr Ac Ch PS Ly Pa OT Ea Ga Im0 Im1 La) 0 0 [(0, .ref (g.2.2 8)), (1, .int (zI v1_16)), (2, .int (zI v2_17))] 95 []) h (fun v1_16 v2_17 Rd_18 h => ?_) (fun k_19 hk_19 h => ?_)
    · refine z_aload_n cx d_X9_readRun_95 96 rfl rfl 0 rfl ?_
      refine z_dup cx d_X9_readRun_96 97 rfl rfl ?_
      refine z_get cx d_X9_readRun_97 100 rfl e_Rd rfl zX9 7 (by decide) q_200 rfl rfl ?_
      refine y_iconst cx d_X9_readRun_100 101 rfl ?_
      refine y_iadd cx d_X9_readRun_101 102 rfl ?_
      refine y_put cx d_X9_readRun_102 105 rfl e_Rd rfl zX9 tyX9_ok nmX9 7 (by decide) q_200 rfl rfl rfl rfl (Nat.le_of_ble_eq_true rfl) h (fun _ h9 => s_Rd_7 h9) (fun Rd_20 h => ?_)
      refine z_goto cx d_X9_readRun_105 9 (by decide) ?_
      exact hrec_5 _ _ _ h
    refine y_if_eq cx d_X9_readRun_39 42 rfl 66 (by decide) rfl h (fun h => ?_) (fun h => ?_)
    · refine z_iload_n cx d_X9_readRun_66 67 rfl rfl 0 rfl ?_
      refine y_callS_i (As := [.int (zI u_14)]) (rest := []) (W := fun u_21 => wX g X N T Rd_4 Fr Ac Ch PS Ly Pa OT Ea Ga Im0 Im1 La) (rf := fun u_21 => zI u_21) (rm := zr0) cx (fun _ hq => tRd_isDigit hq) d_X9_readRun_67 70 rfl kk_X9_isDigit q_768 q_769 ⟨rfl, rfl⟩ ⟨Nat.le_of_ble_eq_true rfl, Nat.le_of_ble_eq_true rfl⟩ rfl rfl (Nat.le_of_ble_eq_true rfl) ⟨Nat.zero_le _, Nat.zero_le _⟩ h (fun u_21 h => ?_)
      refine y_if_eq cx d_X9_readRun_70 73 rfl 108 (by decide) rfl h (fun h => ?_) (fun h => ?_)
      · refine z_sub [1, 2, 3] rfl ?_
        exact hk_7  h
      · refine y_iinc cx 3 d_X9_readRun_73 76 rfl rfl (by decide) (lv' := [(2, .int (zI (v2_3 + 1))), (3, .int (zI u_14)), (0, .ref (g.2.2 8)), (1, .int (zI v1_2))]) rfl ?_
        refine z_aload_n cx d_X9_readRun_76 77 rfl rfl 2 rfl ?_
        refine z_aload_n cx d_X9_readRun_77 78 rfl rfl 2 rfl ?_
        refine z_get cx d_X9_readRun_78 81 rfl e_Rd rfl zX9 10 (by decide) q_203 rfl rfl ?_
        refine y_ldc2_w cx 10 d_X9_readRun_81 84 rfl q_771 ?_
        refine y_lmul cx d_X9_readRun_84 85 rfl ?_
        refine z_iload_n cx d_X9_readRun_85 86 rfl rfl 1 rfl ?_
        refine y_i2l2 cx d_X9_readRun_86 87 rfl rfl ?_
        refine y_ladd cx d_X9_readRun_87 88 rfl ?_
        refine y_ldc2_w cx 48 d_X9_readRun_88 91 rfl q_772 ?_
        refine y_lsub cx d_X9_readRun_91 92 rfl ?_
        refine y_put cx d_X9_readRun_92 95 rfl e_Rd rfl zX9 tyX9_ok nmX9 10 (by decide) q_203 rfl rfl rfl rfl (Nat.le_of_ble_eq_true rfl) h (fun _ h9 => s_Rd_10 h9) (fun Rd_22 h => ?_)
        refine z_sub [2, 3, 0] rfl ?_
        exact hk_19 _ _ _ h
    · refine y_iinc cx 2 d_X9_readRun_42 45 rfl rfl (by decide) (lv' := [(1, .int (zI (v1_2 + 1))), (3, .int (zI u_14)), (0, .ref (g.2.2 8)), (2, .int (zI v2_3))]) rfl ?_
      refine z_aload_n cx d_X9_readRun_45 46 rfl rfl 2 rfl ?_
      refine z_aload_n cx d_X9_readRun_46 47 rfl rfl 2 rfl ?_
      refine z_get cx d_X9_readRun_47 50 rfl e_Rd rfl zX9 10 (by decide) q_203 rfl rfl ?_
      refine y_ldc2_w cx 27 d_X9_readRun_50 53 rfl q_149 ?_
      refine y_lmul cx d_X9_readRun_53 54 rfl ?_
      refine z_iload_n cx d_X9_readRun_54 55 rfl rfl 1 rfl ?_
      refine y_callS_i (As := [.int (zI u_14)]) (rest := [.long (zJ ((Rd_4.1 10) * 27)), .ref (g.2.2 8)]) (W := fun u_23 => wX g X N T Rd_4 Fr Ac Ch PS Ly Pa OT Ea Ga Im0 Im1 La) (rf := fun u_23 => zI u_23) (rm := zr0) cx (fun _ hq => tRd_letterCode hq) d_X9_readRun_55 58 rfl kk_X9_letterCode q_188 q_189 ⟨rfl, rfl⟩ ⟨Nat.le_of_ble_eq_true rfl, Nat.le_of_ble_eq_true rfl⟩ rfl rfl (Nat.le_of_ble_eq_true rfl) ⟨Nat.zero_le _, Nat.zero_le _⟩ h (fun u_23 h => ?_)
      refine y_i2l2 cx d_X9_readRun_58 59 rfl rfl ?_
      refine y_ladd cx d_X9_readRun_59 60 rfl ?_
      refine y_put cx d_X9_readRun_60 63 rfl e_Rd rfl zX9 tyX9_ok nmX9 10 (by decide) q_203 rfl rfl rfl rfl (Nat.le_of_ble_eq_true rfl) h (fun _ h9 => s_Rd_10 h9) (fun Rd_24 h => ?_)
      refine z_goto cx d_X9_readRun_63 95 (by decide) ?_
      refine z_sub [2, 0, 3] rfl ?_
      exact hk_19 _ _ _ h
def zrRd_nextToken : Room := { frames := 2, cells := 0, slots := 0, locals := 44 }
set_option maxHeartbeats 4000000 in
theorem tRd_nextToken {l : Launch} {g : ZG} {X : ZB} {N : ZB} {T : ZB} {Rd : ZB} {Fr : ZB} {Ac : ZA} {Ch : ZB} {PS : ZB} {Ly : ZB} {Pa : ZQ} {OT : ZB} {Ea : ZB} {Ga : ZB} {Im0 : ZO} {Im1 : ZO} {La : ZB}  {r : ZB} (h : fRd_nextToken T Rd = some r) : zMv l yX9_nextToken cX9_nextToken 2 none zrRd_nextToken g [.ref (g.2.2 8)] (wX g X N T Rd Fr Ac Ch PS Ly Pa OT Ea Ga Im0 Im1 La) (wX g X N T r Fr Ac Ch PS Ly Pa OT Ea Ga Im0 Im1 La) := by
  unfold fRd_nextToken at h
  refine zMv_q (own := RX9) rfl (by decide +kernel) (Nat.le_of_ble_eq_true rfl) (lv := [(0, .ref (g.2.2 8))]) rfl ⟨rfl, rfl⟩ ?_
  intro p e s m args below meth c A Q hQ cx
  refine z_aload_n cx d_X9_nextToken_0 1 rfl rfl 0 rfl ?_
  refine z_get cx d_X9_nextToken_1 4 rfl e_Rd rfl zX9 0 (by decide) q_193 rfl rfl ?_
  refine y_callV_i (As := []) (rest := []) (W := fun u_1 => wX g X N T Rd Fr Ac Ch PS Ly Pa OT Ea Ga Im0 Im1 La) (rf := fun u_1 => zI u_1) (rm := zr0) cx (fun _ hq => tT_size hq) d_X9_nextToken_4 7 rfl kk_X10_size q_750 q_715 q_716 rfl e_T rfl ⟨rfl, rfl⟩ ⟨Nat.le_of_ble_eq_true rfl, Nat.le_of_ble_eq_true rfl⟩ rfl rfl (Nat.le_of_ble_eq_true rfl) ⟨Nat.zero_le _, Nat.zero_le _⟩ h (fun u_1 h => ?_)
  refine y_sipush cx d_X9_nextToken_7 10 rfl (by decide) ?_
  refine y_mmin cx d_X9_nextToken_10 13 rfl q_751 q_752 q_43 q_753 (Nat.le_of_ble_eq_true rfl) (Nat.le_of_ble_eq_true rfl) (Nat.zero_le _) (Nat.zero_le _) ?_
  refine y_istore_n_b cx d_X9_nextToken_13 14 rfl rfl (by decide) (fun y => [(1, .int (zI y)), (0, .ref (g.2.2 8))]) (fun y => rfl) h (fun v1_2 h => ?_)
  refine z_sub [1, 0] rfl ?_
  refine lop1_f (P := fun (Rd_3 : ZB) => V p l e zrRd_nextToken s m args below meth c A s.heap g 2 Q (wX g X N T Rd_3 Fr Ac Ch PS Ly Pa OT Ea Ga Im0 Im1 La) 0 0 [(0, .ref (g.2.2 8)), (1, .int (zI v1_2))] 14 []) (fun rec_4 hrec_4 Rd_3 h => ?_) _ _ h
  refine z_aload_n cx d_X9_nextToken_14 15 rfl rfl 0 rfl ?_
  refine z_get cx d_X9_nextToken_15 18 rfl e_Rd rfl zX9 7 (by decide) q_200 rfl rfl ?_
  refine z_iload_n cx d_X9_nextToken_18 19 rfl rfl 1 rfl ?_
  refine kf0_f (P := V p l e zrRd_nextToken s m args below meth c A s.heap g 2 Q (wX g X N T Rd_3 Fr Ac Ch PS Ly Pa OT Ea Ga Im0 Im1 La) 0 0 [(0, .ref (g.2.2 8)), (1, .int (zI v1_2))] 52 []) h (fun h => ?_) (fun k_5 hk_5 h => ?_)
  · refine z_aload_n cx d_X9_nextToken_52 53 rfl rfl 0 rfl ?_
    refine z_aload_n cx d_X9_nextToken_53 54 rfl rfl 0 rfl ?_
    refine z_get cx d_X9_nextToken_54 57 rfl e_Rd rfl zX9 7 (by decide) q_200 rfl rfl ?_
    refine z_iload_n cx d_X9_nextToken_57 58 rfl rfl 1 rfl ?_
    refine y_mmin cx d_X9_nextToken_58 61 rfl q_751 q_752 q_43 q_753 (Nat.le_of_ble_eq_true rfl) (Nat.le_of_ble_eq_true rfl) (Nat.zero_le _) (Nat.zero_le _) ?_
    refine y_put cx d_X9_nextToken_61 64 rfl e_Rd rfl zX9 tyX9_ok nmX9 9 (by decide) q_202 rfl rfl rfl rfl (Nat.le_of_ble_eq_true rfl) h (fun _ h9 => s_Rd_9 h9) (fun Rd_6 h => ?_)
    refine z_aload_n cx d_X9_nextToken_64 65 rfl rfl 0 rfl ?_
    refine z_get cx d_X9_nextToken_65 68 rfl e_Rd rfl zX9 7 (by decide) q_200 rfl rfl ?_
    refine z_iload_n cx d_X9_nextToken_68 69 rfl rfl 1 rfl ?_
    refine kf1_f (P := fun (Rd_7 : ZB) => V p l e zrRd_nextToken s m args below meth c A s.heap g 2 Q (wX g X N T Rd_7 Fr Ac Ch PS Ly Pa OT Ea Ga Im0 Im1 La) 0 0 [] 118 []) h (fun Rd_7 h => ?_) (fun k_8 hk_8 h => ?_)
    · subst hQ
      obtain rfl := Option.some.inj h
      exact z_vret cx d_X9_nextToken_118 rfl
    refine y_icmp_lt cx d_X9_nextToken_69 72 rfl 80 (by decide) rfl rfl h (fun h => ?_) (fun h => ?_)
    · refine z_aload_n cx d_X9_nextToken_80 81 rfl rfl 0 rfl ?_
      refine z_get cx d_X9_nextToken_81 84 rfl e_Rd rfl zX9 0 (by decide) q_193 rfl rfl ?_
      refine z_aload_n cx d_X9_nextToken_84 85 rfl rfl 0 rfl ?_
      refine z_get cx d_X9_nextToken_85 88 rfl e_Rd rfl zX9 7 (by decide) q_200 rfl rfl ?_
      refine y_callV_i (As := [.int (zI (Rd_6.1 7))]) (rest := []) (W := fun u_9 => wX g X N T Rd_6 Fr Ac Ch PS Ly Pa OT Ea Ga Im0 Im1 La) (rf := fun u_9 => zI u_9) (rm := zr0) cx (fun _ hq => tT_byteAt hq) d_X9_nextToken_88 91 rfl kk_X10_byteAt q_754 q_755 q_756 rfl e_T rfl ⟨rfl, rfl⟩ ⟨Nat.le_of_ble_eq_true rfl, Nat.le_of_ble_eq_true rfl⟩ rfl rfl (Nat.le_of_ble_eq_true rfl) ⟨Nat.zero_le _, Nat.zero_le _⟩ h (fun u_9 h => ?_)
      refine y_bipush cx d_X9_nextToken_91 93 rfl (by decide) ?_
      refine y_icmp_ne cx d_X9_nextToken_93 96 rfl 114 (by decide) rfl (nm_eq (x := 59) (by decide) (by decide)) h (fun h => ?_) (fun h => ?_)
      · refine z_aload_n cx d_X9_nextToken_114 115 rfl rfl 0 rfl ?_
        refine y_callV_v (As := []) (rest := []) (W := fun u_10 => wX g X N T u_10 Fr Ac Ch PS Ly Pa OT Ea Ga Im0 Im1 La) (rm := zrRd_readRun) cx (fun _ hq => tRd_readRun hq) d_X9_nextToken_115 118 rfl kk_X9_readRun q_761 q_763 q_11 rfl e_Rd rfl ⟨rfl, rfl⟩ ⟨Nat.le_of_ble_eq_true rfl, Nat.le_of_ble_eq_true rfl⟩ rfl rfl (Nat.le_of_ble_eq_true rfl) ⟨Nat.zero_le _, Nat.zero_le _⟩ h (fun u_10 h => ?_)
        refine z_sub [] rfl ?_
        exact hk_8 _ h
      · refine z_aload_n cx d_X9_nextToken_96 97 rfl rfl 0 rfl ?_
        refine y_iconst cx d_X9_nextToken_97 98 rfl ?_
        refine y_put cx d_X9_nextToken_98 101 rfl e_Rd rfl zX9 tyX9_ok nmX9 8 (by decide) q_201 rfl rfl rfl rfl (Nat.le_of_ble_eq_true rfl) h (fun _ h9 => s_Rd_8 h9) (fun Rd_11 h => ?_)
        refine z_aload_n cx d_X9_nextToken_101 102 rfl rfl 0 rfl ?_
        refine z_dup cx d_X9_nextToken_102 103 rfl rfl ?_
        refine z_get cx d_X9_nextToken_103 106 rfl e_Rd rfl zX9 7 (by decide) q_200 rfl rfl ?_
        refine y_iconst cx d_X9_nextToken_106 107 rfl ?_
        refine y_iadd cx d_X9_nextToken_107 108 rfl ?_
        refine y_put cx d_X9_nextToken_108 111 rfl e_Rd rfl zX9 tyX9_ok nmX9 7 (by decide) q_200 rfl rfl rfl rfl (Nat.le_of_ble_eq_true rfl) h (fun _ h9 => s_Rd_7 h9) (fun Rd_12 h => ?_)
        refine z_goto cx d_X9_nextToken_111 118 (by decide) ?_
        refine z_sub [] rfl ?_
        exact hk_8 _ h
    · refine z_aload_n cx d_X9_nextToken_72 73 rfl rfl 0 rfl ?_
      refine y_iconst cx d_X9_nextToken_73 74 rfl ?_
      refine y_put cx d_X9_nextToken_74 77 rfl e_Rd rfl zX9 tyX9_ok nmX9 8 (by decide) q_201 rfl rfl rfl rfl (Nat.le_of_ble_eq_true rfl) h (fun _ h9 => s_Rd_8 h9) (fun Rd_13 h => ?_)
      refine z_goto cx d_X9_nextToken_77 118 (by decide) ?_
      refine z_sub [] rfl ?_
      exact hk_8 _ h
  refine y_icmp_ge cx d_X9_nextToken_19 22 rfl 52 (by decide) rfl rfl h (fun h => ?_) (fun h => ?_)
  · exact hk_5  h
  · refine z_aload_n cx d_X9_nextToken_22 23 rfl rfl 0 rfl ?_
    refine z_get cx d_X9_nextToken_23 26 rfl e_Rd rfl zX9 0 (by decide) q_193 rfl rfl ?_
    refine z_aload_n cx d_X9_nextToken_26 27 rfl rfl 0 rfl ?_
    refine z_get cx d_X9_nextToken_27 30 rfl e_Rd rfl zX9 7 (by decide) q_200 rfl rfl ?_
    refine y_callV_i (As := [.int (zI (Rd_3.1 7))]) (rest := []) (W := fun u_14 => wX g X N T Rd_3 Fr Ac Ch PS Ly Pa OT Ea Ga Im0 Im1 La) (rf := fun u_14 => zI u_14) (rm := zr0) cx (fun _ hq => tT_byteAt hq) d_X9_nextToken_30 33 rfl kk_X10_byteAt q_754 q_755 q_756 rfl e_T rfl ⟨rfl, rfl⟩ ⟨Nat.le_of_ble_eq_true rfl, Nat.le_of_ble_eq_true rfl⟩ rfl rfl (Nat.le_of_ble_eq_true rfl) ⟨Nat.zero_le _, Nat.zero_le _⟩ h (fun u_14 h => ?_)
    refine y_callS_i (As := [.int (zI u_14)]) (rest := []) (W := fun u_15 => wX g X N T Rd_3 Fr Ac Ch PS Ly Pa OT Ea Ga Im0 Im1 La) (rf := fun u_15 => zI u_15) (rm := zr0) cx (fun _ hq => tRd_isBlank hq) d_X9_nextToken_33 36 rfl kk_X9_isBlank q_758 q_759 ⟨rfl, rfl⟩ ⟨Nat.le_of_ble_eq_true rfl, Nat.le_of_ble_eq_true rfl⟩ rfl rfl (Nat.le_of_ble_eq_true rfl) ⟨Nat.zero_le _, Nat.zero_le _⟩ h (fun u_15 h => ?_)
    refine y_if_eq cx d_X9_nextToken_36 39 rfl 52 (by decide) rfl h (fun h => ?_) (fun h => ?_)
    · exact hk_5  h
    · refine z_aload_n cx d_X9_nextToken_39 40 rfl rfl 0 rfl ?_
      refine z_dup cx d_X9_nextToken_40 41 rfl rfl ?_
      refine z_get cx d_X9_nextToken_41 44 rfl e_Rd rfl zX9 7 (by decide) q_200 rfl rfl ?_
      refine y_iconst cx d_X9_nextToken_44 45 rfl ?_
      refine y_iadd cx d_X9_nextToken_45 46 rfl ?_
      refine y_put cx d_X9_nextToken_46 49 rfl e_Rd rfl zX9 tyX9_ok nmX9 7 (by decide) q_200 rfl rfl rfl rfl (Nat.le_of_ble_eq_true rfl) h (fun _ h9 => s_Rd_7 h9) (fun Rd_16 h => ?_)
      refine z_goto cx d_X9_nextToken_49 14 (by decide) ?_
      exact hrec_4 _ h
set_option maxHeartbeats 4000000 in
theorem tRd_fail {l : Launch} {g : ZG} {X : ZB} {N : ZB} {T : ZB} {Rd : ZB} {Fr : ZB} {Ac : ZA} {Ch : ZB} {PS : ZB} {Ly : ZB} {Pa : ZQ} {OT : ZB} {Ea : ZB} {Ga : ZB} {Im0 : ZO} {Im1 : ZO} {La : ZB} {a1 : Int} {r : Int × ZB} (h : fRd_fail Rd a1 = some r) : zMi l yX9_fail cX9_fail 2 (some .boolean) zr0 g [.ref (g.2.2 8), .int (zI a1)] (wX g X N T Rd Fr Ac Ch PS Ly Pa OT Ea Ga Im0 Im1 La) (wX g X N T r.2 Fr Ac Ch PS Ly Pa OT Ea Ga Im0 Im1 La) (zI r.1) := by
  unfold fRd_fail at h
  refine zMi_q (own := RX9) rfl (by decide +kernel) (Nat.le_of_ble_eq_true rfl) (lv := [(0, .ref (g.2.2 8)), (1, .int (zI a1))]) rfl ⟨rfl, rfl⟩ ?_
  intro p e s m args below meth c A Q hQ cx
  refine z_aload_n cx d_X9_fail_0 1 rfl rfl 0 rfl ?_
  refine z_iload_n cx d_X9_fail_1 2 rfl rfl 1 rfl ?_
  refine y_put cx d_X9_fail_2 5 rfl e_Rd rfl zX9 tyX9_ok nmX9 11 (by decide) q_204 rfl rfl rfl rfl (Nat.le_of_ble_eq_true rfl) h (fun _ h9 => s_Rd_11 h9) (fun Rd_1 h => ?_)
  refine z_aload_n cx d_X9_fail_5 6 rfl rfl 0 rfl ?_
  refine z_aload_n cx d_X9_fail_6 7 rfl rfl 0 rfl ?_
  refine z_get cx d_X9_fail_7 10 rfl e_Rd rfl zX9 9 (by decide) q_202 rfl rfl ?_
  refine y_put cx d_X9_fail_10 13 rfl e_Rd rfl zX9 tyX9_ok nmX9 12 (by decide) q_205 rfl rfl rfl rfl (Nat.le_of_ble_eq_true rfl) h (fun _ h9 => s_Rd_12 h9) (fun Rd_2 h => ?_)
  refine y_iconst cx d_X9_fail_13 14 rfl ?_
  subst hQ
  obtain rfl := Option.some.inj h
  exact z_zret cx d_X9_fail_14 (zb01 (by decide)) rfl rfl
def zrRd_readNumber : Room := { frames := 3, cells := 0, slots := 0, locals := 65 }
set_option maxHeartbeats 4000000 in
theorem tRd_readNumber {l : Launch} {g : ZG} {X : ZB} {N : ZB} {T : ZB} {Rd : ZB} {Fr : ZB} {Ac : ZA} {Ch : ZB} {PS : ZB} {Ly : ZB} {Pa : ZQ} {OT : ZB} {Ea : ZB} {Ga : ZB} {Im0 : ZO} {Im1 : ZO} {La : ZB} {a1 : Int} {r : Int × ZB} (h : fRd_readNumber T Rd a1 = some r) : zMi l yX9_readNumber cX9_readNumber 2 (some .boolean) zrRd_readNumber g [.ref (g.2.2 8), .int (zI a1)] (wX g X N T Rd Fr Ac Ch PS Ly Pa OT Ea Ga Im0 Im1 La) (wX g X N T r.2 Fr Ac Ch PS Ly Pa OT Ea Ga Im0 Im1 La) (zI r.1) := by
  unfold fRd_readNumber at h
  refine zMi_q (own := RX9) rfl (by decide +kernel) (Nat.le_of_ble_eq_true rfl) (lv := [(0, .ref (g.2.2 8)), (1, .int (zI a1))]) rfl ⟨rfl, rfl⟩ ?_
  intro p e s m args below meth c A Q hQ cx
  refine z_aload_n cx d_X9_readNumber_0 1 rfl rfl 0 rfl ?_
  refine y_callV_v (As := []) (rest := []) (W := fun u_1 => wX g X N T u_1 Fr Ac Ch PS Ly Pa OT Ea Ga Im0 Im1 La) (rm := zrRd_nextToken) cx (fun _ hq => tRd_nextToken hq) d_X9_readNumber_1 4 rfl kk_X9_nextToken q_746 q_748 q_10 rfl e_Rd rfl ⟨rfl, rfl⟩ ⟨Nat.le_of_ble_eq_true rfl, Nat.le_of_ble_eq_true rfl⟩ rfl rfl (Nat.le_of_ble_eq_true rfl) ⟨Nat.zero_le _, Nat.zero_le _⟩ h (fun u_1 h => ?_)
  refine z_aload_n cx d_X9_readNumber_4 5 rfl rfl 0 rfl ?_
  refine z_get cx d_X9_readNumber_5 8 rfl e_Rd rfl zX9 8 (by decide) q_201 rfl rfl ?_
  refine y_iconst cx d_X9_readNumber_8 9 rfl ?_
  refine y_icmp_eq cx d_X9_readNumber_9 12 rfl 18 (by decide) rfl (nm_eq (x := 2) (by decide) (by decide)) h (fun h => ?_) (fun h => ?_)
  · refine z_aload_n cx d_X9_readNumber_18 19 rfl rfl 0 rfl ?_
    refine z_get cx d_X9_readNumber_19 22 rfl e_Rd rfl zX9 10 (by decide) q_203 rfl rfl ?_
    refine y_lconst cx 1 d_X9_readNumber_22 23 rfl (by decide) ?_
    refine y_lcmp cx d_X9_readNumber_23 24 rfl ?_
    refine kf2_f (P := fun (w0_2 : Int) (Rd_3 : ZB) => V p l e zrRd_readNumber s m args below meth c A s.heap g 2 Q (wX g X N T Rd_3 Fr Ac Ch PS Ly Pa OT Ea Ga Im0 Im1 La) 0 0 [] 46 [.int (zI w0_2)]) h (fun w0_2 Rd_3 h => ?_) (fun k_4 hk_4 h => ?_)
    · obtain ⟨hz, h⟩ := zo_i h
      subst hQ
      obtain rfl := Option.some.inj h
      exact z_zret cx d_X9_readNumber_46 (zb01 hz) rfl rfl
    refine kf0_f (P := V p l e zrRd_readNumber s m args below meth c A s.heap g 2 Q (wX g X N T u_1 Fr Ac Ch PS Ly Pa OT Ea Ga Im0 Im1 La) 0 0 [(0, .ref (g.2.2 8))] 37 []) h (fun h => ?_) (fun k_5 hk_5 h => ?_)
    · refine z_aload_n cx d_X9_readNumber_37 38 rfl rfl 0 rfl ?_
      refine y_iconst cx d_X9_readNumber_38 39 rfl ?_
      refine y_callV_i (As := [.int (zI 2)]) (rest := []) (W := fun u_6 => wX g X N T u_6.2 Fr Ac Ch PS Ly Pa OT Ea Ga Im0 Im1 La) (rf := fun u_6 => zI u_6.1) (rm := zr0) cx (fun _ hq => tRd_fail hq) d_X9_readNumber_39 42 rfl kk_X9_fail q_781 q_783 q_14 rfl e_Rd rfl ⟨rfl, rfl⟩ ⟨Nat.le_of_ble_eq_true rfl, Nat.le_of_ble_eq_true rfl⟩ rfl rfl (Nat.le_of_ble_eq_true rfl) ⟨Nat.zero_le _, Nat.zero_le _⟩ h (fun u_6 h => ?_)
      refine z_goto cx d_X9_readNumber_42 46 (by decide) ?_
      refine z_sub [] rfl ?_
      exact hk_4 _ _ h
    refine y_if_lt cx d_X9_readNumber_24 27 rfl 37 (by decide) (nm_zlcmp _ _) h (fun h => ?_) (fun h => ?_)
    · refine z_sub [0] rfl ?_
      exact hk_5  h
    · refine z_aload_n cx d_X9_readNumber_27 28 rfl rfl 0 rfl ?_
      refine z_get cx d_X9_readNumber_28 31 rfl e_Rd rfl zX9 10 (by decide) q_203 rfl rfl ?_
      refine z_iload_n cx d_X9_readNumber_31 32 rfl rfl 1 rfl ?_
      refine y_i2l2 cx d_X9_readNumber_32 33 rfl rfl ?_
      refine y_lcmp cx d_X9_readNumber_33 34 rfl ?_
      refine y_if_le cx d_X9_readNumber_34 37 rfl 45 (by decide) (nm_zlcmp _ _) h (fun h => ?_) (fun h => ?_)
      · refine y_iconst cx d_X9_readNumber_45 46 rfl ?_
        refine z_sub [] rfl ?_
        exact hk_4 _ _ h
      · refine z_sub [0] rfl ?_
        exact hk_5  h
  · refine z_aload_n cx d_X9_readNumber_12 13 rfl rfl 0 rfl ?_
    refine y_iconst cx d_X9_readNumber_13 14 rfl ?_
    refine y_callV_i (As := [.int (zI 1)]) (rest := []) (W := fun u_7 => wX g X N T u_7.2 Fr Ac Ch PS Ly Pa OT Ea Ga Im0 Im1 La) (rf := fun u_7 => zI u_7.1) (rm := zr0) cx (fun _ hq => tRd_fail hq) d_X9_readNumber_14 17 rfl kk_X9_fail q_781 q_783 q_14 rfl e_Rd rfl ⟨rfl, rfl⟩ ⟨Nat.le_of_ble_eq_true rfl, Nat.le_of_ble_eq_true rfl⟩ rfl rfl (Nat.le_of_ble_eq_true rfl) ⟨Nat.zero_le _, Nat.zero_le _⟩ h (fun u_7 h => ?_)
    obtain ⟨hz, h⟩ := zo_i h
    subst hQ
    obtain rfl := Option.some.inj h
    exact z_zret cx d_X9_readNumber_17 (zb01 hz) rfl rfl
def zrRd_readSign : Room := { frames := 3, cells := 0, slots := 0, locals := 65 }
set_option maxHeartbeats 4000000 in
theorem tRd_readSign {l : Launch} {g : ZG} {X : ZB} {N : ZB} {T : ZB} {Rd : ZB} {Fr : ZB} {Ac : ZA} {Ch : ZB} {PS : ZB} {Ly : ZB} {Pa : ZQ} {OT : ZB} {Ea : ZB} {Ga : ZB} {Im0 : ZO} {Im1 : ZO} {La : ZB}  {r : Int × ZB} (h : fRd_readSign T Rd = some r) : zMi l yX9_readSign cX9_readSign 1 (some .boolean) zrRd_readSign g [.ref (g.2.2 8)] (wX g X N T Rd Fr Ac Ch PS Ly Pa OT Ea Ga Im0 Im1 La) (wX g X N T r.2 Fr Ac Ch PS Ly Pa OT Ea Ga Im0 Im1 La) (zI r.1) := by
  unfold fRd_readSign at h
  refine zMi_q (own := RX9) rfl (by decide +kernel) (Nat.le_of_ble_eq_true rfl) (lv := [(0, .ref (g.2.2 8))]) rfl ⟨rfl, rfl⟩ ?_
  intro p e s m args below meth c A Q hQ cx
  refine z_aload_n cx d_X9_readSign_0 1 rfl rfl 0 rfl ?_
  refine y_callV_v (As := []) (rest := []) (W := fun u_1 => wX g X N T u_1 Fr Ac Ch PS Ly Pa OT Ea Ga Im0 Im1 La) (rm := zrRd_nextToken) cx (fun _ hq => tRd_nextToken hq) d_X9_readSign_1 4 rfl kk_X9_nextToken q_746 q_748 q_10 rfl e_Rd rfl ⟨rfl, rfl⟩ ⟨Nat.le_of_ble_eq_true rfl, Nat.le_of_ble_eq_true rfl⟩ rfl rfl (Nat.le_of_ble_eq_true rfl) ⟨Nat.zero_le _, Nat.zero_le _⟩ h (fun u_1 h => ?_)
  refine z_aload_n cx d_X9_readSign_4 5 rfl rfl 0 rfl ?_
  refine z_get cx d_X9_readSign_5 8 rfl e_Rd rfl zX9 8 (by decide) q_201 rfl rfl ?_
  refine y_iconst cx d_X9_readSign_8 9 rfl ?_
  refine kf2_f (P := fun (w0_2 : Int) (Rd_3 : ZB) => V p l e zrRd_readSign s m args below meth c A s.heap g 1 Q (wX g X N T Rd_3 Fr Ac Ch PS Ly Pa OT Ea Ga Im0 Im1 La) 0 0 [] 21 [.int (zI w0_2)]) h (fun w0_2 Rd_3 h => ?_) (fun k_4 hk_4 h => ?_)
  · obtain ⟨hz, h⟩ := zo_i h
    subst hQ
    obtain rfl := Option.some.inj h
    exact z_zret cx d_X9_readSign_21 (zb01 hz) rfl rfl
  refine y_icmp_ne cx d_X9_readSign_9 12 rfl 16 (by decide) rfl (nm_eq (x := 3) (by decide) (by decide)) h (fun h => ?_) (fun h => ?_)
  · refine z_aload_n cx d_X9_readSign_16 17 rfl rfl 0 rfl ?_
    refine y_iconst cx d_X9_readSign_17 18 rfl ?_
    refine y_callV_i (As := [.int (zI 1)]) (rest := []) (W := fun u_5 => wX g X N T u_5.2 Fr Ac Ch PS Ly Pa OT Ea Ga Im0 Im1 La) (rf := fun u_5 => zI u_5.1) (rm := zr0) cx (fun _ hq => tRd_fail hq) d_X9_readSign_18 21 rfl kk_X9_fail q_781 q_783 q_14 rfl e_Rd rfl ⟨rfl, rfl⟩ ⟨Nat.le_of_ble_eq_true rfl, Nat.le_of_ble_eq_true rfl⟩ rfl rfl (Nat.le_of_ble_eq_true rfl) ⟨Nat.zero_le _, Nat.zero_le _⟩ h (fun u_5 h => ?_)
    refine z_sub [] rfl ?_
    exact hk_4 _ _ h
  · refine y_iconst cx d_X9_readSign_12 13 rfl ?_
    refine z_goto cx d_X9_readSign_13 21 (by decide) ?_
    refine z_sub [] rfl ?_
    exact hk_4 _ _ h
def zrRd_readForests : Room := { frames := 4, cells := 0, slots := 0, locals := 86 }
set_option maxHeartbeats 4000000 in
theorem tRd_readForests {l : Launch} {g : ZG} {X : ZB} {N : ZB} {T : ZB} {Rd : ZB} {Fr : ZB} {Ac : ZA} {Ch : ZB} {PS : ZB} {Ly : ZB} {Pa : ZQ} {OT : ZB} {Ea : ZB} {Ga : ZB} {Im0 : ZO} {Im1 : ZO} {La : ZB}  {r : Int × ZB × ZB} (h : fRd_readForests T Rd Fr = some r) : zMi l yX9_readForests cX9_readForests 1 (some .boolean) zrRd_readForests g [.ref (g.2.2 8)] (wX g X N T Rd Fr Ac Ch PS Ly Pa OT Ea Ga Im0 Im1 La) (wX g X N T r.2.1 r.2.2 Ac Ch PS Ly Pa OT Ea Ga Im0 Im1 La) (zI r.1) := by
  unfold fRd_readForests at h
  refine zMi_q (own := RX9) rfl (by decide +kernel) (Nat.le_of_ble_eq_true rfl) (lv := [(0, .ref (g.2.2 8))]) rfl ⟨rfl, rfl⟩ ?_
  intro p e s m args below meth c A Q hQ cx
  refine z_aload_n cx d_X9_readForests_0 1 rfl rfl 0 rfl ?_
  refine z_get cx d_X9_readForests_1 4 rfl e_Rd rfl zX9 6 (by decide) q_199 rfl rfl ?_
  refine y_if_eq cx d_X9_readForests_4 7 rfl 13 (by decide) rfl h (fun h => ?_) (fun h => ?_)
  · refine z_aload_n cx d_X9_readForests_13 14 rfl rfl 0 rfl ?_
    refine y_iconst cx d_X9_readForests_14 15 rfl ?_
    refine y_callV_i (As := [.int (zI 5)]) (rest := []) (W := fun u_1 => wX g X N T u_1.2 Fr Ac Ch PS Ly Pa OT Ea Ga Im0 Im1 La) (rf := fun u_1 => zI u_1.1) (rm := zrRd_readNumber) cx (fun _ hq => tRd_readNumber hq) d_X9_readForests_15 18 rfl kk_X9_readNumber q_805 q_807 q_20 rfl e_Rd rfl ⟨rfl, rfl⟩ ⟨Nat.le_of_ble_eq_true rfl, Nat.le_of_ble_eq_true rfl⟩ rfl rfl (Nat.le_of_ble_eq_true rfl) ⟨Nat.zero_le _, Nat.zero_le _⟩ h (fun u_1 h => ?_)
    refine y_if_ne cx d_X9_readForests_18 21 rfl 23 (by decide) rfl h (fun h => ?_) (fun h => ?_)
    · refine z_aload_n cx d_X9_readForests_23 24 rfl rfl 0 rfl ?_
      refine z_get cx d_X9_readForests_24 27 rfl e_Rd rfl zX9 1 (by decide) q_194 rfl rfl ?_
      refine z_aload_n cx d_X9_readForests_27 28 rfl rfl 0 rfl ?_
      refine z_get cx d_X9_readForests_28 31 rfl e_Rd rfl zX9 10 (by decide) q_203 rfl rfl ?_
      refine y_l2i cx d_X9_readForests_31 32 rfl ?_
      refine y_put cx d_X9_readForests_32 35 rfl e_Fr rfl zX5 tyX5_ok nmX5 6 (by decide) q_90 rfl rfl rfl rfl (Nat.le_of_ble_eq_true rfl) h (fun _ h9 => s_Fr_6 h9) (fun Fr_2 h => ?_)
      refine z_aload_n cx d_X9_readForests_35 36 rfl rfl 0 rfl ?_
      refine y_iconst cx d_X9_readForests_36 37 rfl ?_
      refine y_put cx d_X9_readForests_37 40 rfl e_Rd rfl zX9 tyX9_ok nmX9 6 (by decide) q_199 rfl rfl (br0 (by decide)) (brf (by decide)) (Nat.le_of_ble_eq_true rfl) h (fun _ h9 => s_Rd_6 h9) (fun Rd_3 h => ?_)
      refine z_aload_n cx d_X9_readForests_40 41 rfl rfl 0 rfl ?_
      refine y_callV_i (As := []) (rest := []) (W := fun u_4 => wX g X N T u_4.2 Fr_2 Ac Ch PS Ly Pa OT Ea Ga Im0 Im1 La) (rf := fun u_4 => zI u_4.1) (rm := zrRd_readSign) cx (fun _ hq => tRd_readSign hq) d_X9_readForests_41 44 rfl kk_X9_readSign q_793 q_795 q_17 rfl e_Rd rfl ⟨rfl, rfl⟩ ⟨Nat.le_of_ble_eq_true rfl, Nat.le_of_ble_eq_true rfl⟩ rfl rfl (Nat.le_of_ble_eq_true rfl) ⟨Nat.zero_le _, Nat.zero_le _⟩ h (fun u_4 h => ?_)
      obtain ⟨hz, h⟩ := zo_i h
      subst hQ
      obtain rfl := Option.some.inj h
      exact z_zret cx d_X9_readForests_44 (zb01 hz) rfl rfl
    · refine y_iconst cx d_X9_readForests_21 22 rfl ?_
      subst hQ
      obtain rfl := Option.some.inj h
      exact z_zret cx d_X9_readForests_22 (zb01 (by decide)) rfl rfl
  · refine z_aload_n cx d_X9_readForests_7 8 rfl rfl 0 rfl ?_
    refine y_iconst cx d_X9_readForests_8 9 rfl ?_
    refine y_callV_i (As := [.int (zI 3)]) (rest := []) (W := fun u_5 => wX g X N T u_5.2 Fr Ac Ch PS Ly Pa OT Ea Ga Im0 Im1 La) (rf := fun u_5 => zI u_5.1) (rm := zr0) cx (fun _ hq => tRd_fail hq) d_X9_readForests_9 12 rfl kk_X9_fail q_781 q_783 q_14 rfl e_Rd rfl ⟨rfl, rfl⟩ ⟨Nat.le_of_ble_eq_true rfl, Nat.le_of_ble_eq_true rfl⟩ rfl rfl (Nat.le_of_ble_eq_true rfl) ⟨Nat.zero_le _, Nat.zero_le _⟩ h (fun u_5 h => ?_)
    obtain ⟨hz, h⟩ := zo_i h
    subst hQ
    obtain rfl := Option.some.inj h
    exact z_zret cx d_X9_readForests_12 (zb01 hz) rfl rfl
set_option maxHeartbeats 4000000 in
theorem tRd_isName {l : Launch} {g : ZG} {X : ZB} {N : ZB} {T : ZB} {Rd : ZB} {Fr : ZB} {Ac : ZA} {Ch : ZB} {PS : ZB} {Ly : ZB} {Pa : ZQ} {OT : ZB} {Ea : ZB} {Ga : ZB} {Im0 : ZO} {Im1 : ZO} {La : ZB}  {r : Int} (h : fRd_isName Rd = some r) : zMi l yX9_isName cX9_isName 1 (some .boolean) zr0 g [.ref (g.2.2 8)] (wX g X N T Rd Fr Ac Ch PS Ly Pa OT Ea Ga Im0 Im1 La) (wX g X N T Rd Fr Ac Ch PS Ly Pa OT Ea Ga Im0 Im1 La) (zI r) := by
  unfold fRd_isName at h
  refine zMi_q (own := RX9) rfl (by decide +kernel) (Nat.le_of_ble_eq_true rfl) (lv := [(0, .ref (g.2.2 8))]) rfl ⟨rfl, rfl⟩ ?_
  intro p e s m args below meth c A Q hQ cx
  refine z_aload_n cx d_X9_isName_0 1 rfl rfl 0 rfl ?_
  refine z_get cx d_X9_isName_1 4 rfl e_Rd rfl zX9 8 (by decide) q_201 rfl rfl ?_
  refine y_iconst cx d_X9_isName_4 5 rfl ?_
  refine kf1_f (P := fun (w0_1 : Int) => V p l e zr0 s m args below meth c A s.heap g 1 Q (wX g X N T Rd Fr Ac Ch PS Ly Pa OT Ea Ga Im0 Im1 La) 0 0 [] 49 [.int (zI w0_1)]) h (fun w0_1 h => ?_) (fun k_2 hk_2 h => ?_)
  · obtain ⟨hz, h⟩ := zo_i h
    subst hQ
    obtain rfl := Option.some.inj h
    exact z_zret cx d_X9_isName_49 (zb01 hz) rfl rfl
  refine kf0_f (P := V p l e zr0 s m args below meth c A s.heap g 1 Q (wX g X N T Rd Fr Ac Ch PS Ly Pa OT Ea Ga Im0 Im1 La) 0 0 [] 48 []) h (fun h => ?_) (fun k_3 hk_3 h => ?_)
  · refine y_iconst cx d_X9_isName_48 49 rfl ?_
    exact hk_2 _ h
  refine y_icmp_ne cx d_X9_isName_5 8 rfl 48 (by decide) rfl (nm_eq (x := 1) (by decide) (by decide)) h (fun h => ?_) (fun h => ?_)
  · refine z_sub [] rfl ?_
    exact hk_3  h
  · refine z_aload_n cx d_X9_isName_8 9 rfl rfl 0 rfl ?_
    refine z_get cx d_X9_isName_9 12 rfl e_Rd rfl zX9 10 (by decide) q_203 rfl rfl ?_
    refine z_aload_n cx d_X9_isName_12 13 rfl rfl 0 rfl ?_
    refine z_get cx d_X9_isName_13 16 rfl e_Rd rfl zX9 3 (by decide) q_196 rfl rfl ?_
    refine y_lcmp cx d_X9_isName_16 17 rfl ?_
    refine y_if_eq cx d_X9_isName_17 20 rfl 48 (by decide) (nm_zlcmp _ _) h (fun h => ?_) (fun h => ?_)
    · refine z_sub [] rfl ?_
      exact hk_3  h
    · refine z_aload_n cx d_X9_isName_20 21 rfl rfl 0 rfl ?_
      refine z_get cx d_X9_isName_21 24 rfl e_Rd rfl zX9 10 (by decide) q_203 rfl rfl ?_
      refine z_aload_n cx d_X9_isName_24 25 rfl rfl 0 rfl ?_
      refine z_get cx d_X9_isName_25 28 rfl e_Rd rfl zX9 4 (by decide) q_197 rfl rfl ?_
      refine y_lcmp cx d_X9_isName_28 29 rfl ?_
      refine y_if_eq cx d_X9_isName_29 32 rfl 48 (by decide) (nm_zlcmp _ _) h (fun h => ?_) (fun h => ?_)
      · refine z_sub [] rfl ?_
        exact hk_3  h
      · refine z_aload_n cx d_X9_isName_32 33 rfl rfl 0 rfl ?_
        refine z_get cx d_X9_isName_33 36 rfl e_Rd rfl zX9 10 (by decide) q_203 rfl rfl ?_
        refine z_aload_n cx d_X9_isName_36 37 rfl rfl 0 rfl ?_
        refine z_get cx d_X9_isName_37 40 rfl e_Rd rfl zX9 5 (by decide) q_198 rfl rfl ?_
        refine y_lcmp cx d_X9_isName_40 41 rfl ?_
        refine y_if_eq cx d_X9_isName_41 44 rfl 48 (by decide) (nm_zlcmp _ _) h (fun h => ?_) (fun h => ?_)
        · refine z_sub [] rfl ?_
          exact hk_3  h
        · refine y_iconst cx d_X9_isName_44 45 rfl ?_
          refine z_goto cx d_X9_isName_45 49 (by decide) ?_
          refine z_sub [] rfl ?_
          exact hk_2 _ h
set_option maxHeartbeats 4000000 in
theorem tRd_pointOf {l : Launch} {g : ZG} {X : ZB} {N : ZB} {T : ZB} {Rd : ZB} {Fr : ZB} {Ac : ZA} {Ch : ZB} {PS : ZB} {Ly : ZB} {Pa : ZQ} {OT : ZB} {Ea : ZB} {Ga : ZB} {Im0 : ZO} {Im1 : ZO} {La : ZB} {a1 : Int} {r : Int} (h : fRd_pointOf Rd Fr a1 = some r) : zMi l yX9_pointOf cX9_pointOf 4 (some .int) zr0 g [.ref (g.2.2 8), .long (zJ a1)] (wX g X N T Rd Fr Ac Ch PS Ly Pa OT Ea Ga Im0 Im1 La) (wX g X N T Rd Fr Ac Ch PS Ly Pa OT Ea Ga Im0 Im1 La) (zI r) := by
  unfold fRd_pointOf at h
  refine zMi_q (own := RX9) rfl (by decide +kernel) (Nat.le_of_ble_eq_true rfl) (lv := [(0, .ref (g.2.2 8)), (1, .long (zJ a1))]) rfl ⟨rfl, rfl⟩ ?_
  intro p e s m args below meth c A Q hQ cx
  refine y_iconst cx d_X9_pointOf_0 1 rfl ?_
  refine y_istore_n cx d_X9_pointOf_1 2 rfl rfl (by decide) (lv' := [(3, .int (zI 0)), (0, .ref (g.2.2 8)), (1, .long (zJ a1))]) rfl ?_
  refine z_sub [1, 2, 0] rfl ?_
  refine lop1_f (P := fun (v3_1 : Int) => V p l e zr0 s m args below meth c A s.heap g 4 Q (wX g X N T Rd Fr Ac Ch PS Ly Pa OT Ea Ga Im0 Im1 La) 0 0 [(0, .ref (g.2.2 8)), (1, .long (zJ a1)), (3, .int (zI v3_1))] 2 []) (fun rec_2 hrec_2 v3_1 h => ?_) _ _ h
  refine z_iload_n cx d_X9_pointOf_2 3 rfl rfl 2 rfl ?_
  refine z_aload_n cx d_X9_pointOf_3 4 rfl rfl 0 rfl ?_
  refine z_get cx d_X9_pointOf_4 7 rfl e_Rd rfl zX9 1 (by decide) q_194 rfl rfl ?_
  refine z_get cx d_X9_pointOf_7 10 rfl e_Fr rfl zX5 4 (by decide) q_80 rfl rfl ?_
  refine y_icmp_ge cx d_X9_pointOf_10 13 rfl 32 (by decide) rfl rfl h (fun h => ?_) (fun h => ?_)
  · refine y_iconst cx d_X9_pointOf_32 33 rfl ?_
    subst hQ
    obtain rfl := Option.some.inj h
    exact z_iret cx d_X9_pointOf_33 rfl rfl
  · refine z_aload_n cx d_X9_pointOf_13 14 rfl rfl 0 rfl ?_
    refine z_get cx d_X9_pointOf_14 17 rfl e_Rd rfl zX9 2 (by decide) q_195 rfl rfl ?_
    refine z_iload_n cx d_X9_pointOf_17 18 rfl rfl 2 rfl ?_
    refine y_laldx cx d_X9_pointOf_18 19 rfl e_Rd_names (by decide) h (fun x_3 h => ?_)
    refine z_lload_n cx d_X9_pointOf_19 20 rfl rfl 1 rfl ?_
    refine y_lcmp cx d_X9_pointOf_20 21 rfl ?_
    refine y_if_ne cx d_X9_pointOf_21 24 rfl 26 (by decide) (nm_zlcmp _ _) h (fun h => ?_) (fun h => ?_)
    · refine y_iinc cx 2 d_X9_pointOf_26 29 rfl rfl (by decide) (lv' := [(3, .int (zI (v3_1 + 1))), (0, .ref (g.2.2 8)), (1, .long (zJ a1))]) rfl ?_
      refine z_goto cx d_X9_pointOf_29 2 (by decide) ?_
      refine z_sub [1, 2, 0] rfl ?_
      exact hrec_2 _ h
    · refine z_iload_n cx d_X9_pointOf_24 25 rfl rfl 2 rfl ?_
      subst hQ
      obtain rfl := Option.some.inj h
      exact z_iret cx d_X9_pointOf_25 rfl rfl
def zrRd_readEnd : Room := { frames := 3, cells := 0, slots := 0, locals := 65 }
set_option maxHeartbeats 4000000 in
theorem tRd_readEnd {l : Launch} {g : ZG} {X : ZB} {N : ZB} {T : ZB} {Rd : ZB} {Fr : ZB} {Ac : ZA} {Ch : ZB} {PS : ZB} {Ly : ZB} {Pa : ZQ} {OT : ZB} {Ea : ZB} {Ga : ZB} {Im0 : ZO} {Im1 : ZO} {La : ZB} {a1 : Int} {r : Int × ZB} (h : fRd_readEnd T Rd Fr a1 = some r) : zMi l yX9_readEnd cX9_readEnd 3 (some .int) zrRd_readEnd g [.ref (g.2.2 8), .int (zI a1)] (wX g X N T Rd Fr Ac Ch PS Ly Pa OT Ea Ga Im0 Im1 La) (wX g X N T r.2 Fr Ac Ch PS Ly Pa OT Ea Ga Im0 Im1 La) (zI r.1) := by
  unfold fRd_readEnd at h
  refine zMi_q (own := RX9) rfl (by decide +kernel) (Nat.le_of_ble_eq_true rfl) (lv := [(0, .ref (g.2.2 8)), (1, .int (zI a1))]) rfl ⟨rfl, rfl⟩ ?_
  intro p e s m args below meth c A Q hQ cx
  refine z_aload_n cx d_X9_readEnd_0 1 rfl rfl 0 rfl ?_
  refine y_callV_v (As := []) (rest := []) (W := fun u_1 => wX g X N T u_1 Fr Ac Ch PS Ly Pa OT Ea Ga Im0 Im1 La) (rm := zrRd_nextToken) cx (fun _ hq => tRd_nextToken hq) d_X9_readEnd_1 4 rfl kk_X9_nextToken q_746 q_748 q_10 rfl e_Rd rfl ⟨rfl, rfl⟩ ⟨Nat.le_of_ble_eq_true rfl, Nat.le_of_ble_eq_true rfl⟩ rfl rfl (Nat.le_of_ble_eq_true rfl) ⟨Nat.zero_le _, Nat.zero_le _⟩ h (fun u_1 h => ?_)
  refine z_aload_n cx d_X9_readEnd_4 5 rfl rfl 0 rfl ?_
  refine y_callV_i (As := []) (rest := []) (W := fun u_2 => wX g X N T u_1 Fr Ac Ch PS Ly Pa OT Ea Ga Im0 Im1 La) (rf := fun u_2 => zI u_2) (rm := zr0) cx (fun _ hq => tRd_isName hq) d_X9_readEnd_5 8 rfl kk_X9_isName q_785 q_787 q_15 rfl e_Rd rfl ⟨rfl, rfl⟩ ⟨Nat.le_of_ble_eq_true rfl, Nat.le_of_ble_eq_true rfl⟩ rfl rfl (Nat.le_of_ble_eq_true rfl) ⟨Nat.zero_le _, Nat.zero_le _⟩ h (fun u_2 h => ?_)
  refine y_if_ne cx d_X9_readEnd_8 11 rfl 19 (by decide) rfl h (fun h => ?_) (fun h => ?_)
  · refine z_aload_n cx d_X9_readEnd_19 20 rfl rfl 0 rfl ?_
    refine z_aload_n cx d_X9_readEnd_20 21 rfl rfl 0 rfl ?_
    refine z_get cx d_X9_readEnd_21 24 rfl e_Rd rfl zX9 10 (by decide) q_203 rfl rfl ?_
    refine y_callV_i (As := [.long (zJ (u_1.1 10))]) (rest := []) (W := fun u_3 => wX g X N T u_1 Fr Ac Ch PS Ly Pa OT Ea Ga Im0 Im1 La) (rf := fun u_3 => zI u_3) (rm := zr0) cx (fun _ hq => tRd_pointOf hq) d_X9_readEnd_24 27 rfl kk_X9_pointOf q_789 q_791 q_16 rfl e_Rd rfl ⟨rfl, rfl⟩ ⟨Nat.le_of_ble_eq_true rfl, Nat.le_of_ble_eq_true rfl⟩ rfl rfl (Nat.le_of_ble_eq_true rfl) ⟨Nat.zero_le _, Nat.zero_le _⟩ h (fun u_3 h => ?_)
    refine y_istore_n cx d_X9_readEnd_27 28 rfl rfl (by decide) (lv' := [(2, .int (zI u_3)), (0, .ref (g.2.2 8)), (1, .int (zI a1))]) rfl ?_
    refine z_iload_n cx d_X9_readEnd_28 29 rfl rfl 0 rfl ?_
    refine y_iconst cx d_X9_readEnd_29 30 rfl ?_
    refine kf0_f (P := V p l e zrRd_readEnd s m args below meth c A s.heap g 3 Q (wX g X N T u_1 Fr Ac Ch PS Ly Pa OT Ea Ga Im0 Im1 La) 0 0 [(0, .ref (g.2.2 8))] 38 []) h (fun h => ?_) (fun k_4 hk_4 h => ?_)
    · refine z_aload_n cx d_X9_readEnd_38 39 rfl rfl 0 rfl ?_
      refine y_iconst cx d_X9_readEnd_39 40 rfl ?_
      refine y_callV_i (As := [.int (zI 3)]) (rest := []) (W := fun u_5 => wX g X N T u_5.2 Fr Ac Ch PS Ly Pa OT Ea Ga Im0 Im1 La) (rf := fun u_5 => zI u_5.1) (rm := zr0) cx (fun _ hq => tRd_fail hq) d_X9_readEnd_40 43 rfl kk_X9_fail q_781 q_783 q_14 rfl e_Rd rfl ⟨rfl, rfl⟩ ⟨Nat.le_of_ble_eq_true rfl, Nat.le_of_ble_eq_true rfl⟩ rfl rfl (Nat.le_of_ble_eq_true rfl) ⟨Nat.zero_le _, Nat.zero_le _⟩ h (fun u_5 h => ?_)
      refine z_pop cx d_X9_readEnd_43 44 rfl rfl ?_
      refine y_iconst cx d_X9_readEnd_44 45 rfl ?_
      subst hQ
      obtain rfl := Option.some.inj h
      exact z_iret cx d_X9_readEnd_45 rfl rfl
    refine y_icmp_eq cx d_X9_readEnd_30 33 rfl 38 (by decide) rfl (nm_eq (x := (-1)) (by decide) (by decide)) h (fun h => ?_) (fun h => ?_)
    · refine z_sub [1] rfl ?_
      exact hk_4  h
    · refine z_iload_n cx d_X9_readEnd_33 34 rfl rfl 0 rfl ?_
      refine z_iload_n cx d_X9_readEnd_34 35 rfl rfl 2 rfl ?_
      refine y_icmp_ne cx d_X9_readEnd_35 38 rfl 46 (by decide) rfl rfl h (fun h => ?_) (fun h => ?_)
      · refine z_iload_n cx d_X9_readEnd_46 47 rfl rfl 0 rfl ?_
        subst hQ
        obtain rfl := Option.some.inj h
        exact z_iret cx d_X9_readEnd_47 rfl rfl
      · refine z_sub [1] rfl ?_
        exact hk_4  h
  · refine z_aload_n cx d_X9_readEnd_11 12 rfl rfl 0 rfl ?_
    refine y_iconst cx d_X9_readEnd_12 13 rfl ?_
    refine y_callV_i (As := [.int (zI 1)]) (rest := []) (W := fun u_6 => wX g X N T u_6.2 Fr Ac Ch PS Ly Pa OT Ea Ga Im0 Im1 La) (rf := fun u_6 => zI u_6.1) (rm := zr0) cx (fun _ hq => tRd_fail hq) d_X9_readEnd_13 16 rfl kk_X9_fail q_781 q_783 q_14 rfl e_Rd rfl ⟨rfl, rfl⟩ ⟨Nat.le_of_ble_eq_true rfl, Nat.le_of_ble_eq_true rfl⟩ rfl rfl (Nat.le_of_ble_eq_true rfl) ⟨Nat.zero_le _, Nat.zero_le _⟩ h (fun u_6 h => ?_)
    refine z_pop cx d_X9_readEnd_16 17 rfl rfl ?_
    refine y_iconst cx d_X9_readEnd_17 18 rfl ?_
    subst hQ
    obtain rfl := Option.some.inj h
    exact z_iret cx d_X9_readEnd_18 rfl rfl
def zrRd_readLine : Room := { frames := 4, cells := 0, slots := 0, locals := 87 }
set_option maxHeartbeats 4000000 in
theorem tRd_readLine {l : Launch} {g : ZG} {X : ZB} {N : ZB} {T : ZB} {Rd : ZB} {Fr : ZB} {Ac : ZA} {Ch : ZB} {PS : ZB} {Ly : ZB} {Pa : ZQ} {OT : ZB} {Ea : ZB} {Ga : ZB} {Im0 : ZO} {Im1 : ZO} {La : ZB}  {r : Int × ZB × ZB} (h : fRd_readLine T Rd Fr = some r) : zMi l yX9_readLine cX9_readLine 3 (some .boolean) zrRd_readLine g [.ref (g.2.2 8)] (wX g X N T Rd Fr Ac Ch PS Ly Pa OT Ea Ga Im0 Im1 La) (wX g X N T r.2.1 r.2.2 Ac Ch PS Ly Pa OT Ea Ga Im0 Im1 La) (zI r.1) := by
  unfold fRd_readLine at h
  refine zMi_q (own := RX9) rfl (by decide +kernel) (Nat.le_of_ble_eq_true rfl) (lv := [(0, .ref (g.2.2 8))]) rfl ⟨rfl, rfl⟩ ?_
  intro p e s m args below meth c A Q hQ cx
  refine z_aload_n cx d_X9_readLine_0 1 rfl rfl 0 rfl ?_
  refine z_get cx d_X9_readLine_1 4 rfl e_Rd rfl zX9 1 (by decide) q_194 rfl rfl ?_
  refine z_get cx d_X9_readLine_4 7 rfl e_Fr rfl zX5 5 (by decide) q_85 rfl rfl ?_
  refine y_bipush cx d_X9_readLine_7 9 rfl (by decide) ?_
  refine y_icmp_lt cx d_X9_readLine_9 12 rfl 18 (by decide) rfl (nm_eq (x := 24) (by decide) (by decide)) h (fun h => ?_) (fun h => ?_)
  · refine z_aload_n cx d_X9_readLine_18 19 rfl rfl 0 rfl ?_
    refine y_iconst cx d_X9_readLine_19 20 rfl ?_
    refine y_callV_i (As := [.int (zI (-1))]) (rest := []) (W := fun u_1 => wX g X N T u_1.2 Fr Ac Ch PS Ly Pa OT Ea Ga Im0 Im1 La) (rf := fun u_1 => zI u_1.1) (rm := zrRd_readEnd) cx (fun _ hq => tRd_readEnd hq) d_X9_readLine_20 23 rfl kk_X9_readEnd q_801 q_803 q_19 rfl e_Rd rfl ⟨rfl, rfl⟩ ⟨Nat.le_of_ble_eq_true rfl, Nat.le_of_ble_eq_true rfl⟩ rfl rfl (Nat.le_of_ble_eq_true rfl) ⟨Nat.zero_le _, Nat.zero_le _⟩ h (fun u_1 h => ?_)
    refine y_istore_n cx d_X9_readLine_23 24 rfl rfl (by decide) (lv' := [(1, .int (zI u_1.1)), (0, .ref (g.2.2 8))]) rfl ?_
    refine z_iload_n cx d_X9_readLine_24 25 rfl rfl 0 rfl ?_
    refine y_iconst cx d_X9_readLine_25 26 rfl ?_
    refine y_icmp_ne cx d_X9_readLine_26 29 rfl 31 (by decide) rfl (nm_eq (x := (-1)) (by decide) (by decide)) h (fun h => ?_) (fun h => ?_)
    · refine z_aload_n cx d_X9_readLine_31 32 rfl rfl 1 rfl ?_
      refine z_iload_n cx d_X9_readLine_32 33 rfl rfl 0 rfl ?_
      refine y_callV_i (As := [.int (zI u_1.1)]) (rest := []) (W := fun u_2 => wX g X N T u_2.2 Fr Ac Ch PS Ly Pa OT Ea Ga Im0 Im1 La) (rf := fun u_2 => zI u_2.1) (rm := zrRd_readEnd) cx (fun _ hq => tRd_readEnd hq) d_X9_readLine_33 36 rfl kk_X9_readEnd q_801 q_803 q_19 rfl e_Rd rfl ⟨rfl, rfl⟩ ⟨Nat.le_of_ble_eq_true rfl, Nat.le_of_ble_eq_true rfl⟩ rfl rfl (Nat.le_of_ble_eq_true rfl) ⟨Nat.zero_le _, Nat.zero_le _⟩ h (fun u_2 h => ?_)
      refine y_istore_n cx d_X9_readLine_36 37 rfl rfl (by decide) (lv' := [(2, .int (zI u_2.1)), (1, .int (zI u_1.1)), (0, .ref (g.2.2 8))]) rfl ?_
      refine z_iload_n cx d_X9_readLine_37 38 rfl rfl 0 rfl ?_
      refine y_iconst cx d_X9_readLine_38 39 rfl ?_
      refine kf1_f (P := fun (Rd_3 : ZB) => V p l e zrRd_readLine s m args below meth c A s.heap g 3 Q (wX g X N T Rd_3 Fr Ac Ch PS Ly Pa OT Ea Ga Im0 Im1 La) 0 0 [] 51 []) h (fun Rd_3 h => ?_) (fun k_4 hk_4 h => ?_)
      · refine y_iconst cx d_X9_readLine_51 52 rfl ?_
        subst hQ
        obtain rfl := Option.some.inj h
        exact z_zret cx d_X9_readLine_52 (zb01 (by decide)) rfl rfl
      refine y_icmp_eq cx d_X9_readLine_39 42 rfl 51 (by decide) rfl (nm_eq (x := (-1)) (by decide) (by decide)) h (fun h => ?_) (fun h => ?_)
      · refine z_sub [] rfl ?_
        exact hk_4 _ h
      · refine z_aload_n cx d_X9_readLine_42 43 rfl rfl 2 rfl ?_
        refine y_bipush cx d_X9_readLine_43 45 rfl (by decide) ?_
        refine y_callV_i (As := [.int (zI 99)]) (rest := []) (W := fun u_5 => wX g X N T u_5.2 Fr Ac Ch PS Ly Pa OT Ea Ga Im0 Im1 La) (rf := fun u_5 => zI u_5.1) (rm := zrRd_readNumber) cx (fun _ hq => tRd_readNumber hq) d_X9_readLine_45 48 rfl kk_X9_readNumber q_805 q_807 q_20 rfl e_Rd rfl ⟨rfl, rfl⟩ ⟨Nat.le_of_ble_eq_true rfl, Nat.le_of_ble_eq_true rfl⟩ rfl rfl (Nat.le_of_ble_eq_true rfl) ⟨Nat.zero_le _, Nat.zero_le _⟩ h (fun u_5 h => ?_)
        refine y_if_ne cx d_X9_readLine_48 51 rfl 53 (by decide) rfl h (fun h => ?_) (fun h => ?_)
        · refine z_aload_n cx d_X9_readLine_53 54 rfl rfl 2 rfl ?_
          refine z_get cx d_X9_readLine_54 57 rfl e_Rd rfl zX9 1 (by decide) q_194 rfl rfl ?_
          refine z_iload_n cx d_X9_readLine_57 58 rfl rfl 1 rfl ?_
          refine z_iload_n cx d_X9_readLine_58 59 rfl rfl 0 rfl ?_
          refine z_aload_n cx d_X9_readLine_59 60 rfl rfl 2 rfl ?_
          refine z_get cx d_X9_readLine_60 63 rfl e_Rd rfl zX9 10 (by decide) q_203 rfl rfl ?_
          refine y_l2i cx d_X9_readLine_63 64 rfl ?_
          refine y_callV_v (As := [.int (zI u_1.1), .int (zI u_2.1), .int (zI (u_5.2.1 10))]) (rest := []) (W := fun u_6 => wX g X N T u_5.2 u_6 Ac Ch PS Ly Pa OT Ea Ga Im0 Im1 La) (rm := zr0) cx (fun _ hq => tFr_addLine hq) d_X9_readLine_64 67 rfl kk_X5_addLine q_809 q_810 q_811 rfl e_Fr rfl ⟨rfl, rfl⟩ ⟨Nat.le_of_ble_eq_true rfl, Nat.le_of_ble_eq_true rfl⟩ rfl rfl (Nat.le_of_ble_eq_true rfl) ⟨Nat.zero_le _, Nat.zero_le _⟩ h (fun u_6 h => ?_)
          refine z_aload_n cx d_X9_readLine_67 68 rfl rfl 2 rfl ?_
          refine y_callV_i (As := []) (rest := []) (W := fun u_7 => wX g X N T u_7.2 u_6 Ac Ch PS Ly Pa OT Ea Ga Im0 Im1 La) (rf := fun u_7 => zI u_7.1) (rm := zrRd_readSign) cx (fun _ hq => tRd_readSign hq) d_X9_readLine_68 71 rfl kk_X9_readSign q_793 q_795 q_17 rfl e_Rd rfl ⟨rfl, rfl⟩ ⟨Nat.le_of_ble_eq_true rfl, Nat.le_of_ble_eq_true rfl⟩ rfl rfl (Nat.le_of_ble_eq_true rfl) ⟨Nat.zero_le _, Nat.zero_le _⟩ h (fun u_7 h => ?_)
          obtain ⟨hz, h⟩ := zo_i h
          subst hQ
          obtain rfl := Option.some.inj h
          exact z_zret cx d_X9_readLine_71 (zb01 hz) rfl rfl
        · refine z_sub [] rfl ?_
          exact hk_4 _ h
    · refine y_iconst cx d_X9_readLine_29 30 rfl ?_
      subst hQ
      obtain rfl := Option.some.inj h
      exact z_zret cx d_X9_readLine_30 (zb01 (by decide)) rfl rfl
  · refine z_aload_n cx d_X9_readLine_12 13 rfl rfl 0 rfl ?_
    refine y_iconst cx d_X9_readLine_13 14 rfl ?_
    refine y_callV_i (As := [.int (zI 4)]) (rest := []) (W := fun u_8 => wX g X N T u_8.2 Fr Ac Ch PS Ly Pa OT Ea Ga Im0 Im1 La) (rf := fun u_8 => zI u_8.1) (rm := zr0) cx (fun _ hq => tRd_fail hq) d_X9_readLine_14 17 rfl kk_X9_fail q_781 q_783 q_14 rfl e_Rd rfl ⟨rfl, rfl⟩ ⟨Nat.le_of_ble_eq_true rfl, Nat.le_of_ble_eq_true rfl⟩ rfl rfl (Nat.le_of_ble_eq_true rfl) ⟨Nat.zero_le _, Nat.zero_le _⟩ h (fun u_8 h => ?_)
    obtain ⟨hz, h⟩ := zo_i h
    subst hQ
    obtain rfl := Option.some.inj h
    exact z_zret cx d_X9_readLine_17 (zb01 hz) rfl rfl
def zrRd_readPoint : Room := { frames := 4, cells := 0, slots := 0, locals := 85 }
set_option maxHeartbeats 4000000 in
theorem tRd_readPoint {l : Launch} {g : ZG} {X : ZB} {N : ZB} {T : ZB} {Rd : ZB} {Fr : ZB} {Ac : ZA} {Ch : ZB} {PS : ZB} {Ly : ZB} {Pa : ZQ} {OT : ZB} {Ea : ZB} {Ga : ZB} {Im0 : ZO} {Im1 : ZO} {La : ZB}  {r : Int × ZB × ZB} (h : fRd_readPoint T Rd Fr = some r) : zMi l yX9_readPoint cX9_readPoint 1 (some .boolean) zrRd_readPoint g [.ref (g.2.2 8)] (wX g X N T Rd Fr Ac Ch PS Ly Pa OT Ea Ga Im0 Im1 La) (wX g X N T r.2.1 r.2.2 Ac Ch PS Ly Pa OT Ea Ga Im0 Im1 La) (zI r.1) := by
  unfold fRd_readPoint at h
  refine zMi_q (own := RX9) rfl (by decide +kernel) (Nat.le_of_ble_eq_true rfl) (lv := [(0, .ref (g.2.2 8))]) rfl ⟨rfl, rfl⟩ ?_
  intro p e s m args below meth c A Q hQ cx
  refine z_aload_n cx d_X9_readPoint_0 1 rfl rfl 0 rfl ?_
  refine z_get cx d_X9_readPoint_1 4 rfl e_Rd rfl zX9 1 (by decide) q_194 rfl rfl ?_
  refine z_get cx d_X9_readPoint_4 7 rfl e_Fr rfl zX5 4 (by decide) q_80 rfl rfl ?_
  refine y_bipush cx d_X9_readPoint_7 9 rfl (by decide) ?_
  refine y_icmp_lt cx d_X9_readPoint_9 12 rfl 18 (by decide) rfl (nm_eq (x := 10) (by decide) (by decide)) h (fun h => ?_) (fun h => ?_)
  · refine z_aload_n cx d_X9_readPoint_18 19 rfl rfl 0 rfl ?_
    refine y_callV_v (As := []) (rest := []) (W := fun u_1 => wX g X N T u_1 Fr Ac Ch PS Ly Pa OT Ea Ga Im0 Im1 La) (rm := zrRd_nextToken) cx (fun _ hq => tRd_nextToken hq) d_X9_readPoint_19 22 rfl kk_X9_nextToken q_746 q_748 q_10 rfl e_Rd rfl ⟨rfl, rfl⟩ ⟨Nat.le_of_ble_eq_true rfl, Nat.le_of_ble_eq_true rfl⟩ rfl rfl (Nat.le_of_ble_eq_true rfl) ⟨Nat.zero_le _, Nat.zero_le _⟩ h (fun u_1 h => ?_)
    refine z_aload_n cx d_X9_readPoint_22 23 rfl rfl 0 rfl ?_
    refine y_callV_i (As := []) (rest := []) (W := fun u_2 => wX g X N T u_1 Fr Ac Ch PS Ly Pa OT Ea Ga Im0 Im1 La) (rf := fun u_2 => zI u_2) (rm := zr0) cx (fun _ hq => tRd_isName hq) d_X9_readPoint_23 26 rfl kk_X9_isName q_785 q_787 q_15 rfl e_Rd rfl ⟨rfl, rfl⟩ ⟨Nat.le_of_ble_eq_true rfl, Nat.le_of_ble_eq_true rfl⟩ rfl rfl (Nat.le_of_ble_eq_true rfl) ⟨Nat.zero_le _, Nat.zero_le _⟩ h (fun u_2 h => ?_)
    refine y_if_ne cx d_X9_readPoint_26 29 rfl 35 (by decide) rfl h (fun h => ?_) (fun h => ?_)
    · refine z_aload_n cx d_X9_readPoint_35 36 rfl rfl 0 rfl ?_
      refine z_aload_n cx d_X9_readPoint_36 37 rfl rfl 0 rfl ?_
      refine z_get cx d_X9_readPoint_37 40 rfl e_Rd rfl zX9 10 (by decide) q_203 rfl rfl ?_
      refine y_callV_i (As := [.long (zJ (u_1.1 10))]) (rest := []) (W := fun u_3 => wX g X N T u_1 Fr Ac Ch PS Ly Pa OT Ea Ga Im0 Im1 La) (rf := fun u_3 => zI u_3) (rm := zr0) cx (fun _ hq => tRd_pointOf hq) d_X9_readPoint_40 43 rfl kk_X9_pointOf q_789 q_791 q_16 rfl e_Rd rfl ⟨rfl, rfl⟩ ⟨Nat.le_of_ble_eq_true rfl, Nat.le_of_ble_eq_true rfl⟩ rfl rfl (Nat.le_of_ble_eq_true rfl) ⟨Nat.zero_le _, Nat.zero_le _⟩ h (fun u_3 h => ?_)
      refine y_iconst cx d_X9_readPoint_43 44 rfl ?_
      refine y_icmp_eq cx d_X9_readPoint_44 47 rfl 53 (by decide) rfl (nm_eq (x := (-1)) (by decide) (by decide)) h (fun h => ?_) (fun h => ?_)
      · refine z_aload_n cx d_X9_readPoint_53 54 rfl rfl 0 rfl ?_
        refine z_get cx d_X9_readPoint_54 57 rfl e_Rd rfl zX9 2 (by decide) q_195 rfl rfl ?_
        refine z_aload_n cx d_X9_readPoint_57 58 rfl rfl 0 rfl ?_
        refine z_get cx d_X9_readPoint_58 61 rfl e_Rd rfl zX9 1 (by decide) q_194 rfl rfl ?_
        refine z_get cx d_X9_readPoint_61 64 rfl e_Fr rfl zX5 4 (by decide) q_80 rfl rfl ?_
        refine z_aload_n cx d_X9_readPoint_64 65 rfl rfl 0 rfl ?_
        refine z_get cx d_X9_readPoint_65 68 rfl e_Rd rfl zX9 10 (by decide) q_203 rfl rfl ?_
        refine y_last cx d_X9_readPoint_68 69 rfl e_Rd_names (by decide) h (fun _ h9 => s_Rd_names h9) (fun Rd_4 h => ?_)
        refine z_aload_n cx d_X9_readPoint_69 70 rfl rfl 0 rfl ?_
        refine z_get cx d_X9_readPoint_70 73 rfl e_Rd rfl zX9 1 (by decide) q_194 rfl rfl ?_
        refine z_dup cx d_X9_readPoint_73 74 rfl rfl ?_
        refine z_get cx d_X9_readPoint_74 77 rfl e_Fr rfl zX5 4 (by decide) q_80 rfl rfl ?_
        refine y_iconst cx d_X9_readPoint_77 78 rfl ?_
        refine y_iadd cx d_X9_readPoint_78 79 rfl ?_
        refine y_put cx d_X9_readPoint_79 82 rfl e_Fr rfl zX5 tyX5_ok nmX5 4 (by decide) q_80 rfl rfl rfl rfl (Nat.le_of_ble_eq_true rfl) h (fun _ h9 => s_Fr_4 h9) (fun Fr_5 h => ?_)
        refine z_aload_n cx d_X9_readPoint_82 83 rfl rfl 0 rfl ?_
        refine y_callV_i (As := []) (rest := []) (W := fun u_6 => wX g X N T u_6.2 Fr_5 Ac Ch PS Ly Pa OT Ea Ga Im0 Im1 La) (rf := fun u_6 => zI u_6.1) (rm := zrRd_readSign) cx (fun _ hq => tRd_readSign hq) d_X9_readPoint_83 86 rfl kk_X9_readSign q_793 q_795 q_17 rfl e_Rd rfl ⟨rfl, rfl⟩ ⟨Nat.le_of_ble_eq_true rfl, Nat.le_of_ble_eq_true rfl⟩ rfl rfl (Nat.le_of_ble_eq_true rfl) ⟨Nat.zero_le _, Nat.zero_le _⟩ h (fun u_6 h => ?_)
        obtain ⟨hz, h⟩ := zo_i h
        subst hQ
        obtain rfl := Option.some.inj h
        exact z_zret cx d_X9_readPoint_86 (zb01 hz) rfl rfl
      · refine z_aload_n cx d_X9_readPoint_47 48 rfl rfl 0 rfl ?_
        refine y_iconst cx d_X9_readPoint_48 49 rfl ?_
        refine y_callV_i (As := [.int (zI 3)]) (rest := []) (W := fun u_7 => wX g X N T u_7.2 Fr Ac Ch PS Ly Pa OT Ea Ga Im0 Im1 La) (rf := fun u_7 => zI u_7.1) (rm := zr0) cx (fun _ hq => tRd_fail hq) d_X9_readPoint_49 52 rfl kk_X9_fail q_781 q_783 q_14 rfl e_Rd rfl ⟨rfl, rfl⟩ ⟨Nat.le_of_ble_eq_true rfl, Nat.le_of_ble_eq_true rfl⟩ rfl rfl (Nat.le_of_ble_eq_true rfl) ⟨Nat.zero_le _, Nat.zero_le _⟩ h (fun u_7 h => ?_)
        obtain ⟨hz, h⟩ := zo_i h
        subst hQ
        obtain rfl := Option.some.inj h
        exact z_zret cx d_X9_readPoint_52 (zb01 hz) rfl rfl
    · refine z_aload_n cx d_X9_readPoint_29 30 rfl rfl 0 rfl ?_
      refine y_iconst cx d_X9_readPoint_30 31 rfl ?_
      refine y_callV_i (As := [.int (zI 1)]) (rest := []) (W := fun u_8 => wX g X N T u_8.2 Fr Ac Ch PS Ly Pa OT Ea Ga Im0 Im1 La) (rf := fun u_8 => zI u_8.1) (rm := zr0) cx (fun _ hq => tRd_fail hq) d_X9_readPoint_31 34 rfl kk_X9_fail q_781 q_783 q_14 rfl e_Rd rfl ⟨rfl, rfl⟩ ⟨Nat.le_of_ble_eq_true rfl, Nat.le_of_ble_eq_true rfl⟩ rfl rfl (Nat.le_of_ble_eq_true rfl) ⟨Nat.zero_le _, Nat.zero_le _⟩ h (fun u_8 h => ?_)
      obtain ⟨hz, h⟩ := zo_i h
      subst hQ
      obtain rfl := Option.some.inj h
      exact z_zret cx d_X9_readPoint_34 (zb01 hz) rfl rfl
  · refine z_aload_n cx d_X9_readPoint_12 13 rfl rfl 0 rfl ?_
    refine y_iconst cx d_X9_readPoint_13 14 rfl ?_
    refine y_callV_i (As := [.int (zI 4)]) (rest := []) (W := fun u_9 => wX g X N T u_9.2 Fr Ac Ch PS Ly Pa OT Ea Ga Im0 Im1 La) (rf := fun u_9 => zI u_9.1) (rm := zr0) cx (fun _ hq => tRd_fail hq) d_X9_readPoint_14 17 rfl kk_X9_fail q_781 q_783 q_14 rfl e_Rd rfl ⟨rfl, rfl⟩ ⟨Nat.le_of_ble_eq_true rfl, Nat.le_of_ble_eq_true rfl⟩ rfl rfl (Nat.le_of_ble_eq_true rfl) ⟨Nat.zero_le _, Nat.zero_le _⟩ h (fun u_9 h => ?_)
    obtain ⟨hz, h⟩ := zo_i h
    subst hQ
    obtain rfl := Option.some.inj h
    exact z_zret cx d_X9_readPoint_17 (zb01 hz) rfl rfl
def zrRd_readRow : Room := { frames := 5, cells := 0, slots := 0, locals := 109 }
set_option maxHeartbeats 4000000 in
theorem tRd_readRow {l : Launch} {g : ZG} {X : ZB} {N : ZB} {T : ZB} {Rd : ZB} {Fr : ZB} {Ac : ZA} {Ch : ZB} {PS : ZB} {Ly : ZB} {Pa : ZQ} {OT : ZB} {Ea : ZB} {Ga : ZB} {Im0 : ZO} {Im1 : ZO} {La : ZB}  {r : Int × ZB × ZB} (h : fRd_readRow T Rd Fr = some r) : zMi l yX9_readRow cX9_readRow 1 (some .boolean) zrRd_readRow g [.ref (g.2.2 8)] (wX g X N T Rd Fr Ac Ch PS Ly Pa OT Ea Ga Im0 Im1 La) (wX g X N T r.2.1 r.2.2 Ac Ch PS Ly Pa OT Ea Ga Im0 Im1 La) (zI r.1) := by
  unfold fRd_readRow at h
  refine zMi_q (own := RX9) rfl (by decide +kernel) (Nat.le_of_ble_eq_true rfl) (lv := [(0, .ref (g.2.2 8))]) rfl ⟨rfl, rfl⟩ ?_
  intro p e s m args below meth c A Q hQ cx
  refine z_aload_n cx d_X9_readRow_0 1 rfl rfl 0 rfl ?_
  refine z_get cx d_X9_readRow_1 4 rfl e_Rd rfl zX9 8 (by decide) q_201 rfl rfl ?_
  refine y_iconst cx d_X9_readRow_4 5 rfl ?_
  refine kf0_f (P := V p l e zrRd_readRow s m args below meth c A s.heap g 1 Q (wX g X N T Rd Fr Ac Ch PS Ly Pa OT Ea Ga Im0 Im1 La) 0 0 [(0, .ref (g.2.2 8))] 25 []) h (fun h => ?_) (fun k_1 hk_1 h => ?_)
  · refine z_aload_n cx d_X9_readRow_25 26 rfl rfl 0 rfl ?_
    refine z_get cx d_X9_readRow_26 29 rfl e_Rd rfl zX9 8 (by decide) q_201 rfl rfl ?_
    refine y_iconst cx d_X9_readRow_29 30 rfl ?_
    refine kf0_f (P := V p l e zrRd_readRow s m args below meth c A s.heap g 1 Q (wX g X N T Rd Fr Ac Ch PS Ly Pa OT Ea Ga Im0 Im1 La) 0 0 [(0, .ref (g.2.2 8))] 50 []) h (fun h => ?_) (fun k_2 hk_2 h => ?_)
    · refine z_aload_n cx d_X9_readRow_50 51 rfl rfl 0 rfl ?_
      refine z_get cx d_X9_readRow_51 54 rfl e_Rd rfl zX9 8 (by decide) q_201 rfl rfl ?_
      refine y_iconst cx d_X9_readRow_54 55 rfl ?_
      refine kf0_f (P := V p l e zrRd_readRow s m args below meth c A s.heap g 1 Q (wX g X N T Rd Fr Ac Ch PS Ly Pa OT Ea Ga Im0 Im1 La) 0 0 [(0, .ref (g.2.2 8))] 75 []) h (fun h => ?_) (fun k_3 hk_3 h => ?_)
      · refine z_aload_n cx d_X9_readRow_75 76 rfl rfl 0 rfl ?_
        refine y_iconst cx d_X9_readRow_76 77 rfl ?_
        refine y_callV_i (As := [.int (zI 1)]) (rest := []) (W := fun u_4 => wX g X N T u_4.2 Fr Ac Ch PS Ly Pa OT Ea Ga Im0 Im1 La) (rf := fun u_4 => zI u_4.1) (rm := zr0) cx (fun _ hq => tRd_fail hq) d_X9_readRow_77 80 rfl kk_X9_fail q_781 q_783 q_14 rfl e_Rd rfl ⟨rfl, rfl⟩ ⟨Nat.le_of_ble_eq_true rfl, Nat.le_of_ble_eq_true rfl⟩ rfl rfl (Nat.le_of_ble_eq_true rfl) ⟨Nat.zero_le _, Nat.zero_le _⟩ h (fun u_4 h => ?_)
        obtain ⟨hz, h⟩ := zo_i h
        subst hQ
        obtain rfl := Option.some.inj h
        exact z_zret cx d_X9_readRow_80 (zb01 hz) rfl rfl
      refine y_icmp_ne cx d_X9_readRow_55 58 rfl 75 (by decide) rfl (nm_eq (x := 1) (by decide) (by decide)) h (fun h => ?_) (fun h => ?_)
      · exact hk_3  h
      · refine z_aload_n cx d_X9_readRow_58 59 rfl rfl 0 rfl ?_
        refine z_get cx d_X9_readRow_59 62 rfl e_Rd rfl zX9 10 (by decide) q_203 rfl rfl ?_
        refine z_aload_n cx d_X9_readRow_62 63 rfl rfl 0 rfl ?_
        refine z_get cx d_X9_readRow_63 66 rfl e_Rd rfl zX9 5 (by decide) q_198 rfl rfl ?_
        refine y_lcmp cx d_X9_readRow_66 67 rfl ?_
        refine y_if_ne cx d_X9_readRow_67 70 rfl 75 (by decide) (nm_zlcmp _ _) h (fun h => ?_) (fun h => ?_)
        · exact hk_3  h
        · refine z_aload_n cx d_X9_readRow_70 71 rfl rfl 0 rfl ?_
          refine y_callV_i (As := []) (rest := []) (W := fun u_5 => wX g X N T u_5.2.1 u_5.2.2 Ac Ch PS Ly Pa OT Ea Ga Im0 Im1 La) (rf := fun u_5 => zI u_5.1) (rm := zrRd_readForests) cx (fun _ hq => tRd_readForests hq) d_X9_readRow_71 74 rfl kk_X9_readForests q_813 q_815 q_21 rfl e_Rd rfl ⟨rfl, rfl⟩ ⟨Nat.le_of_ble_eq_true rfl, Nat.le_of_ble_eq_true rfl⟩ rfl rfl (Nat.le_of_ble_eq_true rfl) ⟨Nat.zero_le _, Nat.zero_le _⟩ h (fun u_5 h => ?_)
          obtain ⟨hz, h⟩ := zo_i h
          subst hQ
          obtain rfl := Option.some.inj h
          exact z_zret cx d_X9_readRow_74 (zb01 hz) rfl rfl
    refine y_icmp_ne cx d_X9_readRow_30 33 rfl 50 (by decide) rfl (nm_eq (x := 1) (by decide) (by decide)) h (fun h => ?_) (fun h => ?_)
    · exact hk_2  h
    · refine z_aload_n cx d_X9_readRow_33 34 rfl rfl 0 rfl ?_
      refine z_get cx d_X9_readRow_34 37 rfl e_Rd rfl zX9 10 (by decide) q_203 rfl rfl ?_
      refine z_aload_n cx d_X9_readRow_37 38 rfl rfl 0 rfl ?_
      refine z_get cx d_X9_readRow_38 41 rfl e_Rd rfl zX9 4 (by decide) q_197 rfl rfl ?_
      refine y_lcmp cx d_X9_readRow_41 42 rfl ?_
      refine y_if_ne cx d_X9_readRow_42 45 rfl 50 (by decide) (nm_zlcmp _ _) h (fun h => ?_) (fun h => ?_)
      · exact hk_2  h
      · refine z_aload_n cx d_X9_readRow_45 46 rfl rfl 0 rfl ?_
        refine y_callV_i (As := []) (rest := []) (W := fun u_6 => wX g X N T u_6.2.1 u_6.2.2 Ac Ch PS Ly Pa OT Ea Ga Im0 Im1 La) (rf := fun u_6 => zI u_6.1) (rm := zrRd_readLine) cx (fun _ hq => tRd_readLine hq) d_X9_readRow_46 49 rfl kk_X9_readLine q_797 q_799 q_18 rfl e_Rd rfl ⟨rfl, rfl⟩ ⟨Nat.le_of_ble_eq_true rfl, Nat.le_of_ble_eq_true rfl⟩ rfl rfl (Nat.le_of_ble_eq_true rfl) ⟨Nat.zero_le _, Nat.zero_le _⟩ h (fun u_6 h => ?_)
        obtain ⟨hz, h⟩ := zo_i h
        subst hQ
        obtain rfl := Option.some.inj h
        exact z_zret cx d_X9_readRow_49 (zb01 hz) rfl rfl
  refine y_icmp_ne cx d_X9_readRow_5 8 rfl 25 (by decide) rfl (nm_eq (x := 1) (by decide) (by decide)) h (fun h => ?_) (fun h => ?_)
  · exact hk_1  h
  · refine z_aload_n cx d_X9_readRow_8 9 rfl rfl 0 rfl ?_
    refine z_get cx d_X9_readRow_9 12 rfl e_Rd rfl zX9 10 (by decide) q_203 rfl rfl ?_
    refine z_aload_n cx d_X9_readRow_12 13 rfl rfl 0 rfl ?_
    refine z_get cx d_X9_readRow_13 16 rfl e_Rd rfl zX9 3 (by decide) q_196 rfl rfl ?_
    refine y_lcmp cx d_X9_readRow_16 17 rfl ?_
    refine y_if_ne cx d_X9_readRow_17 20 rfl 25 (by decide) (nm_zlcmp _ _) h (fun h => ?_) (fun h => ?_)
    · exact hk_1  h
    · refine z_aload_n cx d_X9_readRow_20 21 rfl rfl 0 rfl ?_
      refine y_callV_i (As := []) (rest := []) (W := fun u_7 => wX g X N T u_7.2.1 u_7.2.2 Ac Ch PS Ly Pa OT Ea Ga Im0 Im1 La) (rf := fun u_7 => zI u_7.1) (rm := zrRd_readPoint) cx (fun _ hq => tRd_readPoint hq) d_X9_readRow_21 24 rfl kk_X9_readPoint q_777 q_779 q_13 rfl e_Rd rfl ⟨rfl, rfl⟩ ⟨Nat.le_of_ble_eq_true rfl, Nat.le_of_ble_eq_true rfl⟩ rfl rfl (Nat.le_of_ble_eq_true rfl) ⟨Nat.zero_le _, Nat.zero_le _⟩ h (fun u_7 h => ?_)
      obtain ⟨hz, h⟩ := zo_i h
      subst hQ
      obtain rfl := Option.some.inj h
      exact z_zret cx d_X9_readRow_24 (zb01 hz) rfl rfl
def zrRd_read : Room := { frames := 6, cells := 0, slots := 0, locals := 129 }
set_option maxHeartbeats 4000000 in
theorem tRd_read {l : Launch} {g : ZG} {X : ZB} {N : ZB} {T : ZB} {Rd : ZB} {Fr : ZB} {Ac : ZA} {Ch : ZB} {PS : ZB} {Ly : ZB} {Pa : ZQ} {OT : ZB} {Ea : ZB} {Ga : ZB} {Im0 : ZO} {Im1 : ZO} {La : ZB}  {r : Int × ZB × ZB} (h : fRd_read T Rd Fr = some r) : zMi l yX9_read cX9_read 3 (some .int) zrRd_read g [.ref (g.2.2 8)] (wX g X N T Rd Fr Ac Ch PS Ly Pa OT Ea Ga Im0 Im1 La) (wX g X N T r.2.1 r.2.2 Ac Ch PS Ly Pa OT Ea Ga Im0 Im1 La) (zI r.1) := by
  unfold fRd_read at h
  refine zMi_q (own := RX9) rfl (by decide +kernel) (Nat.le_of_ble_eq_true rfl) (lv := [(0, .ref (g.2.2 8))]) rfl ⟨rfl, rfl⟩ ?_
  intro p e s m args below meth c A Q hQ cx
  refine z_aload_n cx d_X9_read_0 1 rfl rfl 0 rfl ?_
  refine z_get cx d_X9_read_1 4 rfl e_Rd rfl zX9 1 (by decide) q_194 rfl rfl ?_
  refine y_callV_v (As := []) (rest := []) (W := fun u_1 => wX g X N T Rd u_1 Ac Ch PS Ly Pa OT Ea Ga Im0 Im1 La) (rm := zr0) cx (fun _ hq => tFr_clear hq) d_X9_read_4 7 rfl kk_X5_clear q_742 q_743 q_744 rfl e_Fr rfl ⟨rfl, rfl⟩ ⟨Nat.le_of_ble_eq_true rfl, Nat.le_of_ble_eq_true rfl⟩ rfl rfl (Nat.le_of_ble_eq_true rfl) ⟨Nat.zero_le _, Nat.zero_le _⟩ h (fun u_1 h => ?_)
  refine z_aload_n cx d_X9_read_7 8 rfl rfl 0 rfl ?_
  refine y_iconst cx d_X9_read_8 9 rfl ?_
  refine y_put cx d_X9_read_9 12 rfl e_Rd rfl zX9 tyX9_ok nmX9 6 (by decide) q_199 rfl rfl (br0 (by decide)) (brf (by decide)) (Nat.le_of_ble_eq_true rfl) h (fun _ h9 => s_Rd_6 h9) (fun Rd_2 h => ?_)
  refine z_aload_n cx d_X9_read_12 13 rfl rfl 0 rfl ?_
  refine y_iconst cx d_X9_read_13 14 rfl ?_
  refine y_put cx d_X9_read_14 17 rfl e_Rd rfl zX9 tyX9_ok nmX9 7 (by decide) q_200 rfl rfl rfl rfl (Nat.le_of_ble_eq_true rfl) h (fun _ h9 => s_Rd_7 h9) (fun Rd_3 h => ?_)
  refine z_aload_n cx d_X9_read_17 18 rfl rfl 0 rfl ?_
  refine y_iconst cx d_X9_read_18 19 rfl ?_
  refine y_put cx d_X9_read_19 22 rfl e_Rd rfl zX9 tyX9_ok nmX9 11 (by decide) q_204 rfl rfl rfl rfl (Nat.le_of_ble_eq_true rfl) h (fun _ h9 => s_Rd_11 h9) (fun Rd_4 h => ?_)
  refine y_iconst cx d_X9_read_22 23 rfl ?_
  refine y_istore_n cx d_X9_read_23 24 rfl rfl (by decide) (lv' := [(1, .int (zI 0)), (0, .ref (g.2.2 8))]) rfl ?_
  refine y_iconst cx d_X9_read_24 25 rfl ?_
  refine y_istore_n cx d_X9_read_25 26 rfl rfl (by decide) (lv' := [(2, .int (zI 0)), (1, .int (zI 0)), (0, .ref (g.2.2 8))]) rfl ?_
  refine z_sub [2, 1, 0] rfl ?_
  refine lop4_f (P := fun (v1_5 : Int) (v2_6 : Int) (Rd_7 : ZB) (Fr_8 : ZB) => V p l e zrRd_read s m args below meth c A s.heap g 3 Q (wX g X N T Rd_7 Fr_8 Ac Ch PS Ly Pa OT Ea Ga Im0 Im1 La) 0 0 [(0, .ref (g.2.2 8)), (1, .int (zI v1_5)), (2, .int (zI v2_6))] 26 []) (fun rec_9 hrec_9 v1_5 v2_6 Rd_7 Fr_8 h => ?_) _ _ _ _ _ h
  refine z_iload_n cx d_X9_read_26 27 rfl rfl 2 rfl ?_
  refine y_sipush cx d_X9_read_27 30 rfl (by decide) ?_
  refine kf2_f (P := fun (Rd_10 : ZB) (Fr_11 : ZB) => V p l e zrRd_read s m args below meth c A s.heap g 3 Q (wX g X N T Rd_10 Fr_11 Ac Ch PS Ly Pa OT Ea Ga Im0 Im1 La) 0 0 [(0, .ref (g.2.2 8)), (1, .int (zI v1_5))] 63 []) h (fun Rd_10 Fr_11 h => ?_) (fun k_12 hk_12 h => ?_)
  · refine z_aload_n cx d_X9_read_63 64 rfl rfl 0 rfl ?_
    refine z_get cx d_X9_read_64 67 rfl e_Rd rfl zX9 11 (by decide) q_204 rfl rfl ?_
    refine kf1_f (P := fun (Rd_13 : ZB) => V p l e zrRd_read s m args below meth c A s.heap g 3 Q (wX g X N T Rd_13 Fr_11 Ac Ch PS Ly Pa OT Ea Ga Im0 Im1 La) 0 0 [(0, .ref (g.2.2 8)), (1, .int (zI v1_5))] 89 []) h (fun Rd_13 h => ?_) (fun k_14 hk_14 h => ?_)
    · refine z_aload_n cx d_X9_read_89 90 rfl rfl 0 rfl ?_
      refine z_get cx d_X9_read_90 93 rfl e_Rd rfl zX9 11 (by decide) q_204 rfl rfl ?_
      refine kf1_f (P := fun (w0_15 : Int) => V p l e zrRd_read s m args below meth c A s.heap g 3 Q (wX g X N T Rd_13 Fr_11 Ac Ch PS Ly Pa OT Ea Ga Im0 Im1 La) 0 0 [] 106 [.int (zI w0_15)]) h (fun w0_15 h => ?_) (fun k_16 hk_16 h => ?_)
      · subst hQ
        obtain rfl := Option.some.inj h
        exact z_iret cx d_X9_read_106 rfl rfl
      refine y_if_ne cx d_X9_read_93 96 rfl 100 (by decide) rfl h (fun h => ?_) (fun h => ?_)
      · refine y_iconst cx d_X9_read_100 101 rfl ?_
        refine z_aload_n cx d_X9_read_101 102 rfl rfl 0 rfl ?_
        refine z_get cx d_X9_read_102 105 rfl e_Rd rfl zX9 12 (by decide) q_205 rfl rfl ?_
        refine y_isub cx d_X9_read_105 106 rfl ?_
        refine z_sub [] rfl ?_
        exact hk_16 _ h
      · refine z_iload_n cx d_X9_read_96 97 rfl rfl 1 rfl ?_
        refine z_goto cx d_X9_read_97 106 (by decide) ?_
        refine z_sub [] rfl ?_
        exact hk_16 _ h
    refine y_if_ne cx d_X9_read_67 70 rfl 89 (by decide) rfl h (fun h => ?_) (fun h => ?_)
    · exact hk_14 _ h
    · refine z_aload_n cx d_X9_read_70 71 rfl rfl 0 rfl ?_
      refine z_get cx d_X9_read_71 74 rfl e_Rd rfl zX9 0 (by decide) q_193 rfl rfl ?_
      refine y_callV_i (As := []) (rest := []) (W := fun u_17 => wX g X N T Rd_10 Fr_11 Ac Ch PS Ly Pa OT Ea Ga Im0 Im1 La) (rf := fun u_17 => zI u_17) (rm := zr0) cx (fun _ hq => tT_size hq) d_X9_read_74 77 rfl kk_X10_size q_750 q_715 q_716 rfl e_T rfl ⟨rfl, rfl⟩ ⟨Nat.le_of_ble_eq_true rfl, Nat.le_of_ble_eq_true rfl⟩ rfl rfl (Nat.le_of_ble_eq_true rfl) ⟨Nat.zero_le _, Nat.zero_le _⟩ h (fun u_17 h => ?_)
      refine y_sipush cx d_X9_read_77 80 rfl (by decide) ?_
      refine y_icmp_le cx d_X9_read_80 83 rfl 89 (by decide) rfl (nm_eq (x := 600) (by decide) (by decide)) h (fun h => ?_) (fun h => ?_)
      · exact hk_14 _ h
      · refine z_aload_n cx d_X9_read_83 84 rfl rfl 0 rfl ?_
        refine y_iconst cx d_X9_read_84 85 rfl ?_
        refine y_callV_i (As := [.int (zI 1)]) (rest := []) (W := fun u_18 => wX g X N T u_18.2 Fr_11 Ac Ch PS Ly Pa OT Ea Ga Im0 Im1 La) (rf := fun u_18 => zI u_18.1) (rm := zr0) cx (fun _ hq => tRd_fail hq) d_X9_read_85 88 rfl kk_X9_fail q_781 q_783 q_14 rfl e_Rd rfl ⟨rfl, rfl⟩ ⟨Nat.le_of_ble_eq_true rfl, Nat.le_of_ble_eq_true rfl⟩ rfl rfl (Nat.le_of_ble_eq_true rfl) ⟨Nat.zero_le _, Nat.zero_le _⟩ h (fun u_18 h => ?_)
        refine z_pop cx d_X9_read_88 89 rfl rfl ?_
        exact hk_14 _ h
  refine y_icmp_gt cx d_X9_read_30 33 rfl 63 (by decide) rfl (nm_eq (x := 600) (by decide) (by decide)) h (fun h => ?_) (fun h => ?_)
  · refine z_sub [0, 1] rfl ?_
    exact hk_12 _ _ h
  · refine z_aload_n cx d_X9_read_33 34 rfl rfl 0 rfl ?_
    refine y_callV_v (As := []) (rest := []) (W := fun u_19 => wX g X N T u_19 Fr_8 Ac Ch PS Ly Pa OT Ea Ga Im0 Im1 La) (rm := zrRd_nextToken) cx (fun _ hq => tRd_nextToken hq) d_X9_read_34 37 rfl kk_X9_nextToken q_746 q_748 q_10 rfl e_Rd rfl ⟨rfl, rfl⟩ ⟨Nat.le_of_ble_eq_true rfl, Nat.le_of_ble_eq_true rfl⟩ rfl rfl (Nat.le_of_ble_eq_true rfl) ⟨Nat.zero_le _, Nat.zero_le _⟩ h (fun u_19 h => ?_)
    refine z_aload_n cx d_X9_read_37 38 rfl rfl 0 rfl ?_
    refine z_get cx d_X9_read_38 41 rfl e_Rd rfl zX9 8 (by decide) q_201 rfl rfl ?_
    refine y_if_eq cx d_X9_read_41 44 rfl 63 (by decide) rfl h (fun h => ?_) (fun h => ?_)
    · refine z_sub [0, 1] rfl ?_
      exact hk_12 _ _ h
    · refine z_aload_n cx d_X9_read_44 45 rfl rfl 0 rfl ?_
      refine y_callV_i (As := []) (rest := []) (W := fun u_20 => wX g X N T u_20.2.1 u_20.2.2 Ac Ch PS Ly Pa OT Ea Ga Im0 Im1 La) (rf := fun u_20 => zI u_20.1) (rm := zrRd_readRow) cx (fun _ hq => tRd_readRow hq) d_X9_read_45 48 rfl kk_X9_readRow q_773 q_775 q_12 rfl e_Rd rfl ⟨rfl, rfl⟩ ⟨Nat.le_of_ble_eq_true rfl, Nat.le_of_ble_eq_true rfl⟩ rfl rfl (Nat.le_of_ble_eq_true rfl) ⟨Nat.zero_le _, Nat.zero_le _⟩ h (fun u_20 h => ?_)
      refine y_if_ne cx d_X9_read_48 51 rfl 54 (by decide) rfl h (fun h => ?_) (fun h => ?_)
      · refine y_iinc cx 1 d_X9_read_54 57 rfl rfl (by decide) (lv' := [(1, .int (zI (v1_5 + 1))), (0, .ref (g.2.2 8)), (2, .int (zI v2_6))]) rfl ?_
        refine y_iinc cx 2 d_X9_read_57 60 rfl rfl (by decide) (lv' := [(2, .int (zI (v2_6 + 1))), (1, .int (zI (v1_5 + 1))), (0, .ref (g.2.2 8))]) rfl ?_
        refine z_goto cx d_X9_read_60 26 (by decide) ?_
        refine z_sub [2, 1, 0] rfl ?_
        exact hrec_9 _ _ _ _ h
      · refine z_goto cx d_X9_read_51 63 (by decide) ?_
        refine z_sub [0, 1] rfl ?_
        exact hk_12 _ _ h
set_option maxHeartbeats 4000000 in
theorem tRd_faultKind {l : Launch} {g : ZG} {X : ZB} {N : ZB} {T : ZB} {Rd : ZB} {Fr : ZB} {Ac : ZA} {Ch : ZB} {PS : ZB} {Ly : ZB} {Pa : ZQ} {OT : ZB} {Ea : ZB} {Ga : ZB} {Im0 : ZO} {Im1 : ZO} {La : ZB}  {r : Int} (h : fRd_faultKind Rd = some r) : zMi l yX9_faultKind cX9_faultKind 1 (some .int) zr0 g [.ref (g.2.2 8)] (wX g X N T Rd Fr Ac Ch PS Ly Pa OT Ea Ga Im0 Im1 La) (wX g X N T Rd Fr Ac Ch PS Ly Pa OT Ea Ga Im0 Im1 La) (zI r) := by
  unfold fRd_faultKind at h
  refine zMi_q (own := RX9) rfl (by decide +kernel) (Nat.le_of_ble_eq_true rfl) (lv := [(0, .ref (g.2.2 8))]) rfl ⟨rfl, rfl⟩ ?_
  intro p e s m args below meth c A Q hQ cx
  refine z_aload_n cx d_X9_faultKind_0 1 rfl rfl 0 rfl ?_
  refine z_get cx d_X9_faultKind_1 4 rfl e_Rd rfl zX9 11 (by decide) q_204 rfl rfl ?_
  subst hQ
  obtain rfl := Option.some.inj h
  exact z_iret cx d_X9_faultKind_4 rfl rfl
