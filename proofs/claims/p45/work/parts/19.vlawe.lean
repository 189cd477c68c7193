-- needs: 18.xzlaw
def zrL_agree : Room := { frames := 6, cells := 0, slots := 0, locals := 132 }
set_option maxHeartbeats 40000000 in
theorem tL_agree {l : Launch} {g : ZG} {X : ZB} {N : ZB} {T : ZB} {Rd : ZB} {Fr : ZB} {Ac : ZA} {Ch : ZB} {PS : ZB} {Ly : ZB} {Pa : ZQ} {OT : ZB} {Ea : ZB} {Ga : ZB} {Im0 : ZO} {Im1 : ZO} {La : ZB}  {r : Int × ZB × ZQ} (h : fL_agree N PS Pa La = some r) : zMi l yL_agree cL_agree 10 (some .boolean) zrL_agree g [.ref (g.2.2 0), .ref (g.2.2 92)] (wX g X N T Rd Fr Ac Ch PS Ly Pa OT Ea Ga Im0 Im1 La) (wX g X N T Rd Fr Ac Ch r.2.1 Ly r.2.2 OT Ea Ga Im0 Im1 La) (zI r.1) := by
  unfold fL_agree at h
  refine zMi_q (own := RL) rfl (by decide +kernel) (Nat.le_of_ble_eq_true rfl) (lv := [(0, .ref (g.2.2 0)), (1, .ref (g.2.2 92))]) rfl ⟨rfl, rfl⟩ ?_
  intro p e s m args below meth c A Q hQ cx
  refine z_aload_n cx d_L_agree_0 1 rfl rfl 0 rfl ?_
  refine z_aload_n cx d_L_agree_1 2 rfl rfl 1 rfl ?_
  refine y_callS_i (As := [.ref (g.2.2 0), .ref (g.2.2 92)]) (rest := []) (W := fun u_1 => wX g X N T Rd Fr Ac Ch PS Ly Pa OT Ea Ga Im0 Im1 La) (rf := fun u_1 => zI u_1) (rm := zrL_sound) cx (fun _ hq => tL_sound hq) d_L_agree_2 5 rfl kk_L_sound q_882 q_883 ⟨rfl, rfl⟩ ⟨Nat.le_of_ble_eq_true rfl, Nat.le_of_ble_eq_true rfl⟩ rfl rfl (Nat.le_of_ble_eq_true rfl) ⟨Nat.zero_le _, Nat.zero_le _⟩ h (fun u_1 h => ?_)
  refine y_istore_n cx d_L_agree_5 6 rfl rfl (by decide) (lv' := [(2, .int (zI u_1)), (0, .ref (g.2.2 0)), (1, .ref (g.2.2 92))]) rfl ?_
  refine z_aload_n cx d_L_agree_6 7 rfl rfl 1 rfl ?_
  refine y_callV_i (As := []) (rest := []) (W := fun u_2 => wX g X N T Rd Fr Ac Ch u_2.2 Ly Pa OT Ea Ga Im0 Im1 La) (rf := fun u_2 => zI u_2.1) (rm := zrX_fewest) cx (fun _ hq => tX_fewest hq) d_L_agree_7 10 rfl kk_X11_fewest q_924 q_925 q_926 rfl e_X rfl ⟨rfl, rfl⟩ ⟨Nat.le_of_ble_eq_true rfl, Nat.le_of_ble_eq_true rfl⟩ rfl rfl (Nat.le_of_ble_eq_true rfl) ⟨Nat.zero_le _, Nat.zero_le _⟩ h (fun u_2 h => ?_)
  refine y_istore_n cx d_L_agree_10 11 rfl rfl (by decide) (lv' := [(3, .int (zI u_2.1)), (2, .int (zI u_1)), (0, .ref (g.2.2 0)), (1, .ref (g.2.2 92))]) rfl ?_
  refine z_aload_n cx d_L_agree_11 12 rfl rfl 2 rfl ?_
  refine z_iload_n cx d_L_agree_12 13 rfl rfl 0 rfl ?_
  refine y_callV_i (As := [.int (zI u_2.1)]) (rest := []) (W := fun u_3 => wX g X N T Rd Fr Ac Ch u_3.2 Ly Pa OT Ea Ga Im0 Im1 La) (rf := fun u_3 => zI u_3.1) (rm := zrX_most) cx (fun _ hq => tX_most hq) d_L_agree_13 16 rfl kk_X11_most q_571 q_572 q_573 rfl e_X rfl ⟨rfl, rfl⟩ ⟨Nat.le_of_ble_eq_true rfl, Nat.le_of_ble_eq_true rfl⟩ rfl rfl (Nat.le_of_ble_eq_true rfl) ⟨Nat.zero_le _, Nat.zero_le _⟩ h (fun u_3 h => ?_)
  refine z_iload_n cx d_L_agree_16 17 rfl rfl 1 rfl ?_
  refine y_callS_i (As := [.int (zI u_1)]) (rest := [.int (zI u_3.1)]) (W := fun u_4 => wX g X N T Rd Fr Ac Ch u_3.2 Ly Pa OT Ea Ga Im0 Im1 La) (rf := fun u_4 => zI u_4) (rm := zr0) cx (fun _ hq => tL_bits hq) d_L_agree_17 20 rfl kk_L_bits q_861 q_862 ⟨rfl, rfl⟩ ⟨Nat.le_of_ble_eq_true rfl, Nat.le_of_ble_eq_true rfl⟩ rfl rfl (Nat.le_of_ble_eq_true rfl) ⟨Nat.zero_le _, Nat.zero_le _⟩ h (fun u_4 h => ?_)
  refine kf1_f (P := fun (PS_5 : ZB) => V p l e zrL_agree s m args below meth c A s.heap g 10 Q (wX g X N T Rd Fr Ac Ch PS_5 Ly Pa OT Ea Ga Im0 Im1 La) 0 0 [] 41 []) h (fun PS_5 h => ?_) (fun k_6 hk_6 h => ?_)
  · refine y_iconst cx d_L_agree_41 42 rfl ?_
    subst hQ
    obtain rfl := Option.some.inj h
    exact z_zret cx d_L_agree_42 (zb01 (by decide)) rfl rfl
  refine y_icmp_ne cx d_L_agree_20 23 rfl 41 (by decide) rfl rfl h (fun h => ?_) (fun h => ?_)
  · refine z_sub [] rfl ?_
    exact hk_6 _ h
  · refine z_iload_n cx d_L_agree_23 24 rfl rfl 0 rfl ?_
    refine kf1_f (P := fun (PS_7 : ZB) => V p l e zrL_agree s m args below meth c A s.heap g 10 Q (wX g X N T Rd Fr Ac Ch PS_7 Ly Pa OT Ea Ga Im0 Im1 La) 0 0 [(0, .ref (g.2.2 0)), (1, .ref (g.2.2 92)), (2, .int (zI u_1)), (3, .int (zI u_2.1))] 43 []) h (fun PS_7 h => ?_) (fun k_8 hk_8 h => ?_)
    · refine z_aload_n cx d_L_agree_43 44 rfl rfl 0 rfl ?_
      refine y_iconst cx d_L_agree_44 45 rfl ?_
      refine y_callV_i (As := [.int (zI 0)]) (rest := []) (W := fun u_9 => wX g X N T Rd Fr Ac Ch u_9.2 Ly Pa OT Ea Ga Im0 Im1 La) (rf := fun u_9 => zI u_9.1) (rm := zrX_thick) cx (fun _ hq => tX_thick hq) d_L_agree_45 48 rfl kk_X11_thick q_947 q_948 q_949 rfl e_X rfl ⟨rfl, rfl⟩ ⟨Nat.le_of_ble_eq_true rfl, Nat.le_of_ble_eq_true rfl⟩ rfl rfl (Nat.le_of_ble_eq_true rfl) ⟨Nat.zero_le _, Nat.zero_le _⟩ h (fun u_9 h => ?_)
      refine y_istore cx d_L_agree_48 50 rfl (by decide) (lv' := [(4, .int (zI u_9.1)), (0, .ref (g.2.2 0)), (1, .ref (g.2.2 92)), (2, .int (zI u_1)), (3, .int (zI u_2.1))]) rfl ?_
      refine z_aload_n cx d_L_agree_50 51 rfl rfl 1 rfl ?_
      refine y_iconst cx d_L_agree_51 52 rfl ?_
      refine y_callV_i (As := [.int (zI 1)]) (rest := []) (W := fun u_10 => wX g X N T Rd Fr Ac Ch u_10.2 Ly Pa OT Ea Ga Im0 Im1 La) (rf := fun u_10 => zI u_10.1) (rm := zrX_thick) cx (fun _ hq => tX_thick hq) d_L_agree_52 55 rfl kk_X11_thick q_947 q_948 q_949 rfl e_X rfl ⟨rfl, rfl⟩ ⟨Nat.le_of_ble_eq_true rfl, Nat.le_of_ble_eq_true rfl⟩ rfl rfl (Nat.le_of_ble_eq_true rfl) ⟨Nat.zero_le _, Nat.zero_le _⟩ h (fun u_10 h => ?_)
      refine y_istore cx d_L_agree_55 57 rfl (by decide) (lv' := [(5, .int (zI u_10.1)), (4, .int (zI u_9.1)), (0, .ref (g.2.2 0)), (1, .ref (g.2.2 92)), (2, .int (zI u_1)), (3, .int (zI u_2.1))]) rfl ?_
      refine z_aload_n cx d_L_agree_57 58 rfl rfl 2 rfl ?_
      refine y_iconst cx d_L_agree_58 59 rfl ?_
      refine y_callV_i (As := [.int (zI 2)]) (rest := []) (W := fun u_11 => wX g X N T Rd Fr Ac Ch u_11.2 Ly Pa OT Ea Ga Im0 Im1 La) (rf := fun u_11 => zI u_11.1) (rm := zrX_thick) cx (fun _ hq => tX_thick hq) d_L_agree_59 62 rfl kk_X11_thick q_947 q_948 q_949 rfl e_X rfl ⟨rfl, rfl⟩ ⟨Nat.le_of_ble_eq_true rfl, Nat.le_of_ble_eq_true rfl⟩ rfl rfl (Nat.le_of_ble_eq_true rfl) ⟨Nat.zero_le _, Nat.zero_le _⟩ h (fun u_11 h => ?_)
      refine y_istore cx d_L_agree_62 64 rfl (by decide) (lv' := [(6, .int (zI u_11.1)), (5, .int (zI u_10.1)), (4, .int (zI u_9.1)), (0, .ref (g.2.2 0)), (1, .ref (g.2.2 92)), (2, .int (zI u_1)), (3, .int (zI u_2.1))]) rfl ?_
      refine z_iload cx d_L_agree_64 66 rfl 1 rfl ?_
      refine y_iconst cx d_L_agree_66 67 rfl ?_
      refine kf0_f (P := V p l e zrL_agree s m args below meth c A s.heap g 10 Q (wX g X N T Rd Fr Ac Ch u_11.2 Ly Pa OT Ea Ga Im0 Im1 La) 0 0 [] 107 []) h (fun h => ?_) (fun k_12 hk_12 h => ?_)
      · refine y_iconst cx d_L_agree_107 108 rfl ?_
        subst hQ
        obtain rfl := Option.some.inj h
        exact z_zret cx d_L_agree_108 (zb01 (by decide)) rfl rfl
      refine y_icmp_lt cx d_L_agree_67 70 rfl 107 (by decide) rfl (nm_eq (x := 1) (by decide) (by decide)) h (fun h => ?_) (fun h => ?_)
      · refine z_sub [] rfl ?_
        exact hk_12  h
      · refine z_iload cx d_L_agree_70 72 rfl 2 rfl ?_
        refine z_iload cx d_L_agree_72 74 rfl 1 rfl ?_
        refine y_iadd cx d_L_agree_74 75 rfl ?_
        refine y_iconst cx d_L_agree_75 76 rfl ?_
        refine y_isub cx d_L_agree_76 77 rfl ?_
        refine z_iload cx d_L_agree_77 79 rfl 1 rfl ?_
        refine y_idiv cx d_L_agree_79 80 rfl h (fun h => ?_)
        refine z_iload_n cx d_L_agree_80 81 rfl rfl 6 rfl ?_
        refine y_icmp_ne cx d_L_agree_81 84 rfl 107 (by decide) (nm_zdiv _ _) rfl h (fun h => ?_) (fun h => ?_)
        · refine z_sub [] rfl ?_
          exact hk_12  h
        · refine z_aload_n cx d_L_agree_84 85 rfl rfl 4 rfl ?_
          refine z_iload cx d_L_agree_85 87 rfl 0 rfl ?_
          refine z_iload_n cx d_L_agree_87 88 rfl rfl 5 rfl ?_
          refine y_callS_i (As := [.ref (g.2.2 92), .int (zI u_11.1), .int (zI u_1)]) (rest := []) (W := fun u_13 => wX g X N T Rd Fr Ac Ch u_11.2 Ly Pa OT Ea Ga Im0 Im1 La) (rf := fun u_13 => zI u_13) (rm := zrL_inner) cx (fun _ hq => tL_inner hq) d_L_agree_88 91 rfl kk_L_inner q_918 q_919 ⟨rfl, rfl⟩ ⟨Nat.le_of_ble_eq_true rfl, Nat.le_of_ble_eq_true rfl⟩ rfl rfl (Nat.le_of_ble_eq_true rfl) ⟨Nat.zero_le _, Nat.zero_le _⟩ h (fun u_13 h => ?_)
          refine z_iload cx d_L_agree_91 93 rfl 1 rfl ?_
          refine y_imul cx d_L_agree_93 94 rfl ?_
          refine z_iload cx d_L_agree_94 96 rfl 2 rfl ?_
          refine z_iload cx d_L_agree_96 98 rfl 0 rfl ?_
          refine y_callS_i (As := [.int (zI u_11.1)]) (rest := [.int (zI u_9.1), .int (zI (u_13 * u_10.1))]) (W := fun u_14 => wX g X N T Rd Fr Ac Ch u_11.2 Ly Pa OT Ea Ga Im0 Im1 La) (rf := fun u_14 => zI u_14) (rm := zr0) cx (fun _ hq => tL_bits hq) d_L_agree_98 101 rfl kk_L_bits q_861 q_862 ⟨rfl, rfl⟩ ⟨Nat.le_of_ble_eq_true rfl, Nat.le_of_ble_eq_true rfl⟩ rfl rfl (Nat.le_of_ble_eq_true rfl) ⟨Nat.zero_le _, Nat.zero_le _⟩ h (fun u_14 h => ?_)
          refine y_iconst cx d_L_agree_101 102 rfl ?_
          refine y_isub cx d_L_agree_102 103 rfl ?_
          refine y_imul cx d_L_agree_103 104 rfl ?_
          refine y_icmp_eq cx d_L_agree_104 107 rfl 109 (by decide) rfl rfl h (fun h => ?_) (fun h => ?_)
          · refine y_iconst cx d_L_agree_109 110 rfl ?_
            refine y_istore cx d_L_agree_110 112 rfl (by decide) (lv' := [(7, .int (zI 1)), (6, .int (zI u_11.1)), (5, .int (zI u_10.1)), (4, .int (zI u_9.1)), (0, .ref (g.2.2 0)), (1, .ref (g.2.2 92)), (2, .int (zI u_1)), (3, .int (zI u_2.1))]) rfl ?_
            refine z_sub [4, 5, 6, 3, 2, 0] rfl ?_
            refine lop1_f (P := fun (v7_15 : Int) => V p l e zrL_agree s m args below meth c A s.heap g 10 Q (wX g X N T Rd Fr Ac Ch u_11.2 Ly Pa OT Ea Ga Im0 Im1 La) 0 0 [(0, .ref (g.2.2 0)), (1, .ref (g.2.2 92)), (2, .int (zI u_1)), (4, .int (zI u_9.1)), (5, .int (zI u_10.1)), (7, .int (zI v7_15))] 112 []) (fun rec_16 hrec_16 v7_15 h => ?_) _ _ h
            refine z_iload cx d_L_agree_112 114 rfl 5 rfl ?_
            refine y_iconst cx d_L_agree_114 115 rfl ?_
            refine z_aload_n cx d_L_agree_115 116 rfl rfl 1 rfl ?_
            refine y_iconst cx d_L_agree_116 117 rfl ?_
            refine y_ialdx cx d_L_agree_117 118 rfl e_La_v (by decide) h (fun x_17 h => ?_)
            refine y_ishl cx d_L_agree_118 119 rfl ?_
            refine y_icmp_ge cx d_L_agree_119 122 rfl 162 (by decide) rfl (nm_zshl _ _) h (fun h => ?_) (fun h => ?_)
            · refine z_aload_n cx d_L_agree_162 163 rfl rfl 0 rfl ?_
              refine y_callV_i (As := []) (rest := []) (W := fun u_18 => wX g X N T Rd Fr Ac Ch u_18.2 Ly Pa OT Ea Ga Im0 Im1 La) (rf := fun u_18 => zI u_18.1) (rm := zrX_trees) cx (fun _ hq => tX_trees hq) d_L_agree_163 166 rfl kk_X11_trees q_974 q_975 q_976 rfl e_X rfl ⟨rfl, rfl⟩ ⟨Nat.le_of_ble_eq_true rfl, Nat.le_of_ble_eq_true rfl⟩ rfl rfl (Nat.le_of_ble_eq_true rfl) ⟨Nat.zero_le _, Nat.zero_le _⟩ h (fun u_18 h => ?_)
              refine y_istore cx d_L_agree_166 168 rfl (by decide) (lv' := [(7, .int (zI u_18.1)), (0, .ref (g.2.2 0)), (1, .ref (g.2.2 92)), (2, .int (zI u_1)), (4, .int (zI u_9.1)), (5, .int (zI u_10.1))]) rfl ?_
              refine z_aload_n cx d_L_agree_168 169 rfl rfl 1 rfl ?_
              refine y_iconst cx d_L_agree_169 170 rfl ?_
              refine y_callV_i (As := [.int (zI 1)]) (rest := []) (W := fun u_19 => wX g X N T Rd Fr Ac Ch u_19.2.1 Ly u_19.2.2 OT Ea Ga Im0 Im1 La) (rf := fun u_19 => zI u_19.1) (rm := zrX_strength) cx (fun _ hq => tX_strength hq) d_L_agree_170 173 rfl kk_X11_strength q_983 q_984 q_985 rfl e_X rfl ⟨rfl, rfl⟩ ⟨Nat.le_of_ble_eq_true rfl, Nat.le_of_ble_eq_true rfl⟩ rfl rfl (Nat.le_of_ble_eq_true rfl) ⟨Nat.zero_le _, Nat.zero_le _⟩ h (fun u_19 h => ?_)
              refine y_iconst cx d_L_agree_173 174 rfl ?_
              refine kf2_f (P := fun (PS_20 : ZB) (Pa_21 : ZQ) => V p l e zrL_agree s m args below meth c A s.heap g 10 Q (wX g X N T Rd Fr Ac Ch PS_20 Ly Pa_21 OT Ea Ga Im0 Im1 La) 0 0 [] 231 []) h (fun PS_20 Pa_21 h => ?_) (fun k_22 hk_22 h => ?_)
              · refine y_iconst cx d_L_agree_231 232 rfl ?_
                subst hQ
                obtain rfl := Option.some.inj h
                exact z_zret cx d_L_agree_232 (zb01 (by decide)) rfl rfl
              refine y_icmp_lt cx d_L_agree_174 177 rfl 231 (by decide) rfl (nm_eq (x := 1) (by decide) (by decide)) h (fun h => ?_) (fun h => ?_)
              · refine z_sub [] rfl ?_
                exact hk_22 _ _ h
              · refine z_aload_n cx d_L_agree_177 178 rfl rfl 1 rfl ?_
                refine y_iconst cx d_L_agree_178 179 rfl ?_
                refine y_callV_i (As := [.int (zI 0)]) (rest := []) (W := fun u_23 => wX g X N T Rd Fr Ac Ch u_23.2.1 Ly u_23.2.2 OT Ea Ga Im0 Im1 La) (rf := fun u_23 => zI u_23.1) (rm := zrX_strength) cx (fun _ hq => tX_strength hq) d_L_agree_179 182 rfl kk_X11_strength q_983 q_984 q_985 rfl e_X rfl ⟨rfl, rfl⟩ ⟨Nat.le_of_ble_eq_true rfl, Nat.le_of_ble_eq_true rfl⟩ rfl rfl (Nat.le_of_ble_eq_true rfl) ⟨Nat.zero_le _, Nat.zero_le _⟩ h (fun u_23 h => ?_)
                refine z_aload_n cx d_L_agree_182 183 rfl rfl 1 rfl ?_
                refine y_iconst cx d_L_agree_183 184 rfl ?_
                refine y_callV_i (As := [.int (zI 1)]) (rest := [.int (zI u_23.1)]) (W := fun u_24 => wX g X N T Rd Fr Ac Ch u_24.2.1 Ly u_24.2.2 OT Ea Ga Im0 Im1 La) (rf := fun u_24 => zI u_24.1) (rm := zrX_strength) cx (fun _ hq => tX_strength hq) d_L_agree_184 187 rfl kk_X11_strength q_983 q_984 q_985 rfl e_X rfl ⟨rfl, rfl⟩ ⟨Nat.le_of_ble_eq_true rfl, Nat.le_of_ble_eq_true rfl⟩ rfl rfl (Nat.le_of_ble_eq_true rfl) ⟨Nat.zero_le _, Nat.zero_le _⟩ h (fun u_24 h => ?_)
                refine y_idiv cx d_L_agree_187 188 rfl h (fun h => ?_)
                refine z_iload cx d_L_agree_188 190 rfl 0 rfl ?_
                refine y_icmp_ne cx d_L_agree_190 193 rfl 231 (by decide) (nm_zdiv _ _) rfl h (fun h => ?_) (fun h => ?_)
                · refine z_sub [] rfl ?_
                  exact hk_22 _ _ h
                · refine z_aload_n cx d_L_agree_193 194 rfl rfl 1 rfl ?_
                  refine z_iload cx d_L_agree_194 196 rfl 0 rfl ?_
                  refine y_callV_i (As := [.int (zI u_18.1)]) (rest := []) (W := fun u_25 => wX g X N T Rd Fr Ac Ch u_25.2 Ly u_24.2.2 OT Ea Ga Im0 Im1 La) (rf := fun u_25 => zI u_25.1) (rm := zrX_most) cx (fun _ hq => tX_most hq) d_L_agree_196 199 rfl kk_X11_most q_571 q_572 q_573 rfl e_X rfl ⟨rfl, rfl⟩ ⟨Nat.le_of_ble_eq_true rfl, Nat.le_of_ble_eq_true rfl⟩ rfl rfl (Nat.le_of_ble_eq_true rfl) ⟨Nat.zero_le _, Nat.zero_le _⟩ h (fun u_25 h => ?_)
                  refine z_iload cx d_L_agree_199 201 rfl 0 rfl ?_
                  refine z_aload_n cx d_L_agree_201 202 rfl rfl 2 rfl ?_
                  refine y_iconst cx d_L_agree_202 203 rfl ?_
                  refine y_ialdx cx d_L_agree_203 204 rfl e_La_v (by decide) h (fun x_26 h => ?_)
                  refine y_iconst cx d_L_agree_204 205 rfl ?_
                  refine y_isub cx d_L_agree_205 206 rfl ?_
                  refine y_imul cx d_L_agree_206 207 rfl ?_
                  refine y_icmp_ne cx d_L_agree_207 210 rfl 231 (by decide) rfl rfl h (fun h => ?_) (fun h => ?_)
                  · refine z_sub [] rfl ?_
                    exact hk_22 _ _ h
                  · refine z_aload_n cx d_L_agree_210 211 rfl rfl 1 rfl ?_
                    refine z_iload cx d_L_agree_211 213 rfl 0 rfl ?_
                    refine y_iconst cx d_L_agree_213 214 rfl ?_
                    refine y_iadd cx d_L_agree_214 215 rfl ?_
                    refine y_callV_i (As := [.int (zI (u_18.1 + 1))]) (rest := []) (W := fun u_27 => wX g X N T Rd Fr Ac Ch u_27.2 Ly u_24.2.2 OT Ea Ga Im0 Im1 La) (rf := fun u_27 => zI u_27.1) (rm := zrX_most) cx (fun _ hq => tX_most hq) d_L_agree_215 218 rfl kk_X11_most q_571 q_572 q_573 rfl e_X rfl ⟨rfl, rfl⟩ ⟨Nat.le_of_ble_eq_true rfl, Nat.le_of_ble_eq_true rfl⟩ rfl rfl (Nat.le_of_ble_eq_true rfl) ⟨Nat.zero_le _, Nat.zero_le _⟩ h (fun u_27 h => ?_)
                    refine z_iload cx d_L_agree_218 220 rfl 0 rfl ?_
                    refine y_iconst cx d_L_agree_220 221 rfl ?_
                    refine y_iadd cx d_L_agree_221 222 rfl ?_
                    refine z_aload_n cx d_L_agree_222 223 rfl rfl 2 rfl ?_
                    refine y_iconst cx d_L_agree_223 224 rfl ?_
                    refine y_ialdx cx d_L_agree_224 225 rfl e_La_v (by decide) h (fun x_28 h => ?_)
                    refine y_iconst cx d_L_agree_225 226 rfl ?_
                    refine y_isub cx d_L_agree_226 227 rfl ?_
                    refine y_imul cx d_L_agree_227 228 rfl ?_
                    refine y_icmp_lt cx d_L_agree_228 231 rfl 233 (by decide) rfl rfl h (fun h => ?_) (fun h => ?_)
                    · refine y_iconst cx d_L_agree_233 234 rfl ?_
                      refine y_istore cx d_L_agree_234 236 rfl (by decide) (lv' := [(8, .int (zI 0)), (7, .int (zI u_18.1)), (0, .ref (g.2.2 0)), (1, .ref (g.2.2 92)), (2, .int (zI u_1)), (4, .int (zI u_9.1)), (5, .int (zI u_10.1))]) rfl ?_
                      refine z_sub [2, 3, 4, 0] rfl ?_
                      refine lop2_f (P := fun (v8_29 : Int) (PS_30 : ZB) => V p l e zrL_agree s m args below meth c A s.heap g 10 Q (wX g X N T Rd Fr Ac Ch PS_30 Ly u_24.2.2 OT Ea Ga Im0 Im1 La) 0 0 [(0, .ref (g.2.2 0)), (1, .ref (g.2.2 92)), (2, .int (zI u_1)), (8, .int (zI v8_29))] 236 []) (fun rec_31 hrec_31 v8_29 PS_30 h => ?_) _ _ _ h
                      refine z_iload cx d_L_agree_236 238 rfl 3 rfl ?_
                      refine y_iconst cx d_L_agree_238 239 rfl ?_
                      refine y_icmp_ge cx d_L_agree_239 242 rfl 314 (by decide) rfl (nm_eq (x := 4) (by decide) (by decide)) h (fun h => ?_) (fun h => ?_)
                      · refine y_iconst cx d_L_agree_314 315 rfl ?_
                        subst hQ
                        obtain rfl := Option.some.inj h
                        exact z_zret cx d_L_agree_315 (zb01 (by decide)) rfl rfl
                      · refine z_aload_n cx d_L_agree_242 243 rfl rfl 0 rfl ?_
                        refine z_iload cx d_L_agree_243 245 rfl 3 rfl ?_
                        refine y_callV_i (As := [.int (zI v8_29)]) (rest := []) (W := fun u_32 => wX g X N T Rd Fr Ac Ch u_32.2 Ly u_24.2.2 OT Ea Ga Im0 Im1 La) (rf := fun u_32 => zI u_32.1) (rm := zrX_crowded) cx (fun _ hq => tX_crowded hq) d_L_agree_245 248 rfl kk_X11_crowded q_1014 q_1015 q_1016 rfl e_X rfl ⟨rfl, rfl⟩ ⟨Nat.le_of_ble_eq_true rfl, Nat.le_of_ble_eq_true rfl⟩ rfl rfl (Nat.le_of_ble_eq_true rfl) ⟨Nat.zero_le _, Nat.zero_le _⟩ h (fun u_32 h => ?_)
                        refine y_istore cx d_L_agree_248 250 rfl (by decide) (lv' := [(9, .int (zI u_32.1)), (0, .ref (g.2.2 0)), (1, .ref (g.2.2 92)), (2, .int (zI u_1)), (8, .int (zI v8_29))]) rfl ?_
                        refine z_iload cx d_L_agree_250 252 rfl 0 rfl ?_
                        refine kf1_f (P := fun (w0_33 : Int) => V p l e zrL_agree s m args below meth c A s.heap g 10 Q (wX g X N T Rd Fr Ac Ch u_32.2 Ly u_24.2.2 OT Ea Ga Im0 Im1 La) 0 0 [(0, .ref (g.2.2 0)), (1, .ref (g.2.2 92)), (2, .int (zI u_1)), (8, .int (zI v8_29)), (9, .int (zI u_32.1))] 260 [.int (zI w0_33)]) h (fun w0_33 h => ?_) (fun k_34 hk_34 h => ?_)
                        · refine z_aload_n cx d_L_agree_260 261 rfl rfl 0 rfl ?_
                          refine z_iload cx d_L_agree_261 263 rfl 3 rfl ?_
                          refine y_callV_i (As := [.int (zI v8_29)]) (rest := [.int (zI w0_33)]) (W := fun u_35 => wX g X N T Rd Fr Ac Ch u_35.2 Ly u_24.2.2 OT Ea Ga Im0 Im1 La) (rf := fun u_35 => zI u_35.1) (rm := zrX_most) cx (fun _ hq => tX_most hq) d_L_agree_263 266 rfl kk_X11_most q_571 q_572 q_573 rfl e_X rfl ⟨rfl, rfl⟩ ⟨Nat.le_of_ble_eq_true rfl, Nat.le_of_ble_eq_true rfl⟩ rfl rfl (Nat.le_of_ble_eq_true rfl) ⟨Nat.zero_le _, Nat.zero_le _⟩ h (fun u_35 h => ?_)
                          refine z_iload_n cx d_L_agree_266 267 rfl rfl 2 rfl ?_
                          refine y_callS_i (As := [.int (zI u_1)]) (rest := [.int (zI u_35.1), .int (zI w0_33)]) (W := fun u_36 => wX g X N T Rd Fr Ac Ch u_35.2 Ly u_24.2.2 OT Ea Ga Im0 Im1 La) (rf := fun u_36 => zI u_36) (rm := zr0) cx (fun _ hq => tL_bits hq) d_L_agree_267 270 rfl kk_L_bits q_861 q_862 ⟨rfl, rfl⟩ ⟨Nat.le_of_ble_eq_true rfl, Nat.le_of_ble_eq_true rfl⟩ rfl rfl (Nat.le_of_ble_eq_true rfl) ⟨Nat.zero_le _, Nat.zero_le _⟩ h (fun u_36 h => ?_)
                          refine kf2_f (P := fun (w0_37 : Int) (w1_38 : Int) => V p l e zrL_agree s m args below meth c A s.heap g 10 Q (wX g X N T Rd Fr Ac Ch u_35.2 Ly u_24.2.2 OT Ea Ga Im0 Im1 La) 0 0 [(0, .ref (g.2.2 0)), (1, .ref (g.2.2 92)), (2, .int (zI u_1)), (8, .int (zI v8_29)), (9, .int (zI u_32.1))] 278 [.int (zI w1_38), .int (zI w0_37)]) h (fun w0_37 w1_38 h => ?_) (fun k_39 hk_39 h => ?_)
                          · refine kf0_f (P := V p l e zrL_agree s m args below meth c A s.heap g 10 Q (wX g X N T Rd Fr Ac Ch u_35.2 Ly u_24.2.2 OT Ea Ga Im0 Im1 La) 0 0 [] 306 []) h (fun h => ?_) (fun k_40 hk_40 h => ?_)
                            · refine y_iconst cx d_L_agree_306 307 rfl ?_
                              subst hQ
                              obtain rfl := Option.some.inj h
                              exact z_zret cx d_L_agree_307 (zb01 (by decide)) rfl rfl
                            refine y_icmp_ne cx d_L_agree_278 281 rfl 306 (by decide) rfl rfl h (fun h => ?_) (fun h => ?_)
                            · refine z_sub [] rfl ?_
                              exact hk_40  h
                            · refine z_iload cx d_L_agree_281 283 rfl 4 rfl ?_
                              refine kf0_f (P := V p l e zrL_agree s m args below meth c A s.heap g 10 Q (wX g X N T Rd Fr Ac Ch u_35.2 Ly u_24.2.2 OT Ea Ga Im0 Im1 La) 0 0 [(0, .ref (g.2.2 0)), (1, .ref (g.2.2 92)), (2, .int (zI u_1)), (8, .int (zI v8_29))] 308 []) h (fun h => ?_) (fun k_41 hk_41 h => ?_)
                              · refine y_iinc cx 3 d_L_agree_308 311 rfl rfl (by decide) (lv' := [(8, .int (zI (v8_29 + 1))), (0, .ref (g.2.2 0)), (1, .ref (g.2.2 92)), (2, .int (zI u_1))]) rfl ?_
                                refine z_goto cx d_L_agree_311 236 (by decide) ?_
                                refine z_sub [1, 2, 3, 0] rfl ?_
                                exact hrec_31 _ _ h
                              refine y_if_eq cx d_L_agree_283 286 rfl 308 (by decide) rfl h (fun h => ?_) (fun h => ?_)
                              · refine z_sub [0, 1, 2, 3] rfl ?_
                                exact hk_41  h
                              · refine z_aload_n cx d_L_agree_286 287 rfl rfl 1 rfl ?_
                                refine z_iload cx d_L_agree_287 289 rfl 4 rfl ?_
                                refine z_iload_n cx d_L_agree_289 290 rfl rfl 2 rfl ?_
                                refine y_callS_i (As := [.ref (g.2.2 92), .int (zI u_32.1), .int (zI u_1)]) (rest := []) (W := fun u_42 => wX g X N T Rd Fr Ac Ch u_35.2 Ly u_24.2.2 OT Ea Ga Im0 Im1 La) (rf := fun u_42 => zI u_42) (rm := zrL_inner) cx (fun _ hq => tL_inner hq) d_L_agree_290 293 rfl kk_L_inner q_918 q_919 ⟨rfl, rfl⟩ ⟨Nat.le_of_ble_eq_true rfl, Nat.le_of_ble_eq_true rfl⟩ rfl rfl (Nat.le_of_ble_eq_true rfl) ⟨Nat.zero_le _, Nat.zero_le _⟩ h (fun u_42 h => ?_)
                                refine z_iload cx d_L_agree_293 295 rfl 3 rfl ?_
                                refine z_iload cx d_L_agree_295 297 rfl 4 rfl ?_
                                refine y_callS_i (As := [.int (zI u_32.1)]) (rest := [.int (zI v8_29), .int (zI u_42)]) (W := fun u_43 => wX g X N T Rd Fr Ac Ch u_35.2 Ly u_24.2.2 OT Ea Ga Im0 Im1 La) (rf := fun u_43 => zI u_43) (rm := zr0) cx (fun _ hq => tL_bits hq) d_L_agree_297 300 rfl kk_L_bits q_861 q_862 ⟨rfl, rfl⟩ ⟨Nat.le_of_ble_eq_true rfl, Nat.le_of_ble_eq_true rfl⟩ rfl rfl (Nat.le_of_ble_eq_true rfl) ⟨Nat.zero_le _, Nat.zero_le _⟩ h (fun u_43 h => ?_)
                                refine y_iconst cx d_L_agree_300 301 rfl ?_
                                refine y_isub cx d_L_agree_301 302 rfl ?_
                                refine y_imul cx d_L_agree_302 303 rfl ?_
                                refine y_icmp_gt cx d_L_agree_303 306 rfl 308 (by decide) rfl rfl h (fun h => ?_) (fun h => ?_)
                                · refine z_sub [0, 1, 2, 3] rfl ?_
                                  exact hk_41  h
                                · refine z_sub [] rfl ?_
                                  exact hk_40  h
                          refine y_icmp_ne cx d_L_agree_270 273 rfl 277 (by decide) rfl rfl h (fun h => ?_) (fun h => ?_)
                          · refine y_iconst cx d_L_agree_277 278 rfl ?_
                            exact hk_39 _ _ h
                          · refine y_iconst cx d_L_agree_273 274 rfl ?_
                            refine z_goto cx d_L_agree_274 278 (by decide) ?_
                            exact hk_39 _ _ h
                        refine y_if_ne cx d_L_agree_252 255 rfl 259 (by decide) rfl h (fun h => ?_) (fun h => ?_)
                        · refine y_iconst cx d_L_agree_259 260 rfl ?_
                          refine z_sub [1, 2, 3, 4, 0] rfl ?_
                          exact hk_34 _ h
                        · refine y_iconst cx d_L_agree_255 256 rfl ?_
                          refine z_goto cx d_L_agree_256 260 (by decide) ?_
                          refine z_sub [1, 2, 3, 4, 0] rfl ?_
                          exact hk_34 _ h
                    · refine z_sub [] rfl ?_
                      exact hk_22 _ _ h
            · refine z_iload cx d_L_agree_122 124 rfl 5 rfl ?_
              refine y_callS_i (As := [.int (zI v7_15)]) (rest := []) (W := fun u_44 => wX g X N T Rd Fr Ac Ch u_11.2 Ly Pa OT Ea Ga Im0 Im1 La) (rf := fun u_44 => zI u_44) (rm := zr0) cx (fun _ hq => tL_bits hq) d_L_agree_124 127 rfl kk_L_bits q_861 q_862 ⟨rfl, rfl⟩ ⟨Nat.le_of_ble_eq_true rfl, Nat.le_of_ble_eq_true rfl⟩ rfl rfl (Nat.le_of_ble_eq_true rfl) ⟨Nat.zero_le _, Nat.zero_le _⟩ h (fun u_44 h => ?_)
              refine y_iconst cx d_L_agree_127 128 rfl ?_
              refine kf0_f (P := V p l e zrL_agree s m args below meth c A s.heap g 10 Q (wX g X N T Rd Fr Ac Ch u_11.2 Ly Pa OT Ea Ga Im0 Im1 La) 0 0 [(0, .ref (g.2.2 0)), (1, .ref (g.2.2 92)), (2, .int (zI u_1)), (4, .int (zI u_9.1)), (5, .int (zI u_10.1)), (7, .int (zI v7_15))] 156 []) h (fun h => ?_) (fun k_45 hk_45 h => ?_)
              · refine y_iinc cx 5 d_L_agree_156 159 rfl rfl (by decide) (lv' := [(7, .int (zI (v7_15 + 1))), (0, .ref (g.2.2 0)), (1, .ref (g.2.2 92)), (2, .int (zI u_1)), (4, .int (zI u_9.1)), (5, .int (zI u_10.1))]) rfl ?_
                refine z_goto cx d_L_agree_159 112 (by decide) ?_
                refine z_sub [1, 2, 3, 4, 5, 0] rfl ?_
                exact hrec_16 _ h
              refine y_icmp_le cx d_L_agree_128 131 rfl 156 (by decide) rfl (nm_eq (x := 1) (by decide) (by decide)) h (fun h => ?_) (fun h => ?_)
              · exact hk_45  h
              · refine z_aload_n cx d_L_agree_131 132 rfl rfl 1 rfl ?_
                refine z_iload cx d_L_agree_132 134 rfl 5 rfl ?_
                refine z_iload_n cx d_L_agree_134 135 rfl rfl 2 rfl ?_
                refine y_callS_i (As := [.ref (g.2.2 92), .int (zI v7_15), .int (zI u_1)]) (rest := []) (W := fun u_46 => wX g X N T Rd Fr Ac Ch u_11.2 Ly Pa OT Ea Ga Im0 Im1 La) (rf := fun u_46 => zI u_46) (rm := zrL_inner) cx (fun _ hq => tL_inner hq) d_L_agree_135 138 rfl kk_L_inner q_918 q_919 ⟨rfl, rfl⟩ ⟨Nat.le_of_ble_eq_true rfl, Nat.le_of_ble_eq_true rfl⟩ rfl rfl (Nat.le_of_ble_eq_true rfl) ⟨Nat.zero_le _, Nat.zero_le _⟩ h (fun u_46 h => ?_)
                refine z_iload cx d_L_agree_138 140 rfl 4 rfl ?_
                refine y_imul cx d_L_agree_140 141 rfl ?_
                refine z_iload cx d_L_agree_141 143 rfl 3 rfl ?_
                refine z_iload cx d_L_agree_143 145 rfl 5 rfl ?_
                refine y_callS_i (As := [.int (zI v7_15)]) (rest := [.int (zI u_9.1), .int (zI (u_46 * u_10.1))]) (W := fun u_47 => wX g X N T Rd Fr Ac Ch u_11.2 Ly Pa OT Ea Ga Im0 Im1 La) (rf := fun u_47 => zI u_47) (rm := zr0) cx (fun _ hq => tL_bits hq) d_L_agree_145 148 rfl kk_L_bits q_861 q_862 ⟨rfl, rfl⟩ ⟨Nat.le_of_ble_eq_true rfl, Nat.le_of_ble_eq_true rfl⟩ rfl rfl (Nat.le_of_ble_eq_true rfl) ⟨Nat.zero_le _, Nat.zero_le _⟩ h (fun u_47 h => ?_)
                refine y_iconst cx d_L_agree_148 149 rfl ?_
                refine y_isub cx d_L_agree_149 150 rfl ?_
                refine y_imul cx d_L_agree_150 151 rfl ?_
                refine y_icmp_le cx d_L_agree_151 154 rfl 156 (by decide) rfl rfl h (fun h => ?_) (fun h => ?_)
                · exact hk_45  h
                · refine y_iconst cx d_L_agree_154 155 rfl ?_
                  subst hQ
                  obtain rfl := Option.some.inj h
                  exact z_zret cx d_L_agree_155 (zb01 (by decide)) rfl rfl
          · refine z_sub [] rfl ?_
            exact hk_12  h
    refine y_if_le cx d_L_agree_24 27 rfl 43 (by decide) rfl h (fun h => ?_) (fun h => ?_)
    · refine z_sub [2, 3, 1, 0] rfl ?_
      exact hk_8 _ h
    · refine z_aload_n cx d_L_agree_27 28 rfl rfl 2 rfl ?_
      refine z_iload_n cx d_L_agree_28 29 rfl rfl 0 rfl ?_
      refine y_iconst cx d_L_agree_29 30 rfl ?_
      refine y_isub cx d_L_agree_30 31 rfl ?_
      refine y_callV_i (As := [.int (zI (u_2.1 - 1))]) (rest := []) (W := fun u_48 => wX g X N T Rd Fr Ac Ch u_48.2 Ly Pa OT Ea Ga Im0 Im1 La) (rf := fun u_48 => zI u_48.1) (rm := zrX_most) cx (fun _ hq => tX_most hq) d_L_agree_31 34 rfl kk_X11_most q_571 q_572 q_573 rfl e_X rfl ⟨rfl, rfl⟩ ⟨Nat.le_of_ble_eq_true rfl, Nat.le_of_ble_eq_true rfl⟩ rfl rfl (Nat.le_of_ble_eq_true rfl) ⟨Nat.zero_le _, Nat.zero_le _⟩ h (fun u_48 h => ?_)
      refine z_iload_n cx d_L_agree_34 35 rfl rfl 1 rfl ?_
      refine y_callS_i (As := [.int (zI u_1)]) (rest := [.int (zI u_48.1)]) (W := fun u_49 => wX g X N T Rd Fr Ac Ch u_48.2 Ly Pa OT Ea Ga Im0 Im1 La) (rf := fun u_49 => zI u_49) (rm := zr0) cx (fun _ hq => tL_bits hq) d_L_agree_35 38 rfl kk_L_bits q_861 q_862 ⟨rfl, rfl⟩ ⟨Nat.le_of_ble_eq_true rfl, Nat.le_of_ble_eq_true rfl⟩ rfl rfl (Nat.le_of_ble_eq_true rfl) ⟨Nat.zero_le _, Nat.zero_le _⟩ h (fun u_49 h => ?_)
      refine y_icmp_lt cx d_L_agree_38 41 rfl 43 (by decide) rfl rfl h (fun h => ?_) (fun h => ?_)
      · refine z_sub [2, 3, 1, 0] rfl ?_
        exact hk_8 _ h
      · refine z_sub [] rfl ?_
        exact hk_6 _ h
