-- needs: 18.xzlaw
def zrL_placed : Room := { frames := 5, cells := 0, slots := 0, locals := 162 }
set_option maxHeartbeats 40000000 in
theorem tL_placed {l : Launch} {g : ZG} {X : ZB} {N : ZB} {T : ZB} {Rd : ZB} {Fr : ZB} {Ac : ZA} {Ch : ZB} {PS : ZB} {Ly : ZB} {Pa : ZQ} {OT : ZB} {Ea : ZB} {Ga : ZB} {Im0 : ZO} {Im1 : ZO} {La : ZB} {a3 : Int} {r : Int × ZB × ZA × ZB} (h : fL_placed N T Ac Ch La a3 = some r) : zMi l yL_placed cL_placed 10 (some .boolean) zrL_placed g [.ref (g.2.2 0), .ref (g.2.2 92), .int (zI a3)] (wX g X N T Rd Fr Ac Ch PS Ly Pa OT Ea Ga Im0 Im1 La) (wX g X r.2.1 T Rd Fr r.2.2.1 r.2.2.2 PS Ly Pa OT Ea Ga Im0 Im1 La) (zI r.1) := by
  unfold fL_placed at h
  refine zMi_q (own := RL) rfl (by decide +kernel) (Nat.le_of_ble_eq_true rfl) (lv := [(0, .ref (g.2.2 0)), (1, .ref (g.2.2 92)), (2, .int (zI a3))]) rfl ⟨rfl, rfl⟩ ?_
  intro p e s m args below meth c A Q hQ cx
  refine z_aload_n cx d_L_placed_0 1 rfl rfl 0 rfl ?_
  refine z_aload_n cx d_L_placed_1 2 rfl rfl 1 rfl ?_
  refine y_callS_i (As := [.ref (g.2.2 0), .ref (g.2.2 92)]) (rest := []) (W := fun u_1 => wX g X N T Rd Fr Ac Ch PS Ly Pa OT Ea Ga Im0 Im1 La) (rf := fun u_1 => zI u_1) (rm := zrL_lying) cx (fun _ hq => tL_lying hq) d_L_placed_2 5 rfl kk_L_lying q_879 q_880 ⟨rfl, rfl⟩ ⟨Nat.le_of_ble_eq_true rfl, Nat.le_of_ble_eq_true rfl⟩ rfl rfl (Nat.le_of_ble_eq_true rfl) ⟨Nat.zero_le _, Nat.zero_le _⟩ h (fun u_1 h => ?_)
  refine y_istore_n cx d_L_placed_5 6 rfl rfl (by decide) (lv' := [(3, .int (zI u_1)), (0, .ref (g.2.2 0)), (1, .ref (g.2.2 92)), (2, .int (zI a3))]) rfl ?_
  refine z_aload_n cx d_L_placed_6 7 rfl rfl 1 rfl ?_
  refine z_iload_n cx d_L_placed_7 8 rfl rfl 3 rfl ?_
  refine y_callV_i (As := [.int (zI a3)]) (rest := []) (W := fun u_2 => wX g X N T Rd Fr Ac u_2.2 PS Ly Pa OT Ea Ga Im0 Im1 La) (rf := fun u_2 => zI u_2.1) (rm := zrX_chain) cx (fun _ hq => tX_chain hq) d_L_placed_8 11 rfl kk_X11_chain q_888 q_889 q_890 rfl e_X rfl ⟨rfl, rfl⟩ ⟨Nat.le_of_ble_eq_true rfl, Nat.le_of_ble_eq_true rfl⟩ rfl rfl (Nat.le_of_ble_eq_true rfl) ⟨Nat.zero_le _, Nat.zero_le _⟩ h (fun u_2 h => ?_)
  refine y_istore cx d_L_placed_11 13 rfl (by decide) (lv' := [(4, .int (zI u_2.1)), (3, .int (zI u_1)), (0, .ref (g.2.2 0)), (1, .ref (g.2.2 92)), (2, .int (zI a3))]) rfl ?_
  refine z_aload_n cx d_L_placed_13 14 rfl rfl 2 rfl ?_
  refine z_aload_n cx d_L_placed_14 15 rfl rfl 3 rfl ?_
  refine y_callS_i (As := [.ref (g.2.2 0), .ref (g.2.2 92)]) (rest := []) (W := fun u_3 => wX g X N T Rd Fr Ac u_2.2 PS Ly Pa OT Ea Ga Im0 Im1 La) (rf := fun u_3 => zI u_3) (rm := zrL_sound) cx (fun _ hq => tL_sound hq) d_L_placed_15 18 rfl kk_L_sound q_882 q_883 ⟨rfl, rfl⟩ ⟨Nat.le_of_ble_eq_true rfl, Nat.le_of_ble_eq_true rfl⟩ rfl rfl (Nat.le_of_ble_eq_true rfl) ⟨Nat.zero_le _, Nat.zero_le _⟩ h (fun u_3 h => ?_)
  refine z_iload_n cx d_L_placed_18 19 rfl rfl 4 rfl ?_
  refine y_callS_i (As := [.int (zI u_3), .int (zI a3)]) (rest := []) (W := fun u_4 => wX g X N T Rd Fr Ac u_2.2 PS Ly Pa OT Ea Ga Im0 Im1 La) (rf := fun u_4 => zI u_4) (rm := zr0) cx (fun _ hq => tL_has hq) d_L_placed_19 22 rfl kk_L_has q_864 q_865 ⟨rfl, rfl⟩ ⟨Nat.le_of_ble_eq_true rfl, Nat.le_of_ble_eq_true rfl⟩ rfl rfl (Nat.le_of_ble_eq_true rfl) ⟨Nat.zero_le _, Nat.zero_le _⟩ h (fun u_4 h => ?_)
  refine kf1_f (P := fun (w0_5 : Int) => V p l e zrL_placed s m args below meth c A s.heap g 10 Q (wX g X N T Rd Fr Ac u_2.2 PS Ly Pa OT Ea Ga Im0 Im1 La) 0 0 [(0, .ref (g.2.2 0)), (1, .ref (g.2.2 92)), (2, .int (zI a3)), (3, .int (zI u_1)), (4, .int (zI u_2.1))] 38 [.int (zI w0_5)]) h (fun w0_5 h => ?_) (fun k_6 hk_6 h => ?_)
  · refine y_istore cx d_L_placed_38 40 rfl (by decide) (lv' := [(5, .int (zI w0_5)), (0, .ref (g.2.2 0)), (1, .ref (g.2.2 92)), (2, .int (zI a3)), (3, .int (zI u_1)), (4, .int (zI u_2.1))]) rfl ?_
    refine z_iload cx d_L_placed_40 42 rfl 5 rfl ?_
    refine kf1_f (P := fun (w0_7 : Int) => V p l e zrL_placed s m args below meth c A s.heap g 10 Q (wX g X N T Rd Fr Ac u_2.2 PS Ly Pa OT Ea Ga Im0 Im1 La) 0 0 [(0, .ref (g.2.2 0)), (1, .ref (g.2.2 92)), (2, .int (zI a3)), (3, .int (zI u_1)), (4, .int (zI u_2.1)), (5, .int (zI w0_5))] 50 [.int (zI w0_7)]) h (fun w0_7 h => ?_) (fun k_8 hk_8 h => ?_)
    · refine z_iload cx d_L_placed_50 52 rfl 5 rfl ?_
      refine kf2_f (P := fun (w0_9 : Int) (w1_10 : Int) => V p l e zrL_placed s m args below meth c A s.heap g 10 Q (wX g X N T Rd Fr Ac u_2.2 PS Ly Pa OT Ea Ga Im0 Im1 La) 0 0 [(0, .ref (g.2.2 0)), (1, .ref (g.2.2 92)), (2, .int (zI a3)), (3, .int (zI u_1)), (4, .int (zI u_2.1))] 60 [.int (zI w1_10), .int (zI w0_9)]) h (fun w0_9 w1_10 h => ?_) (fun k_11 hk_11 h => ?_)
      · refine kf3_f (P := fun (N_12 : ZB) (Ac_13 : ZA) (Ch_14 : ZB) => V p l e zrL_placed s m args below meth c A s.heap g 10 Q (wX g X N_12 T Rd Fr Ac_13 Ch_14 PS Ly Pa OT Ea Ga Im0 Im1 La) 0 0 [] 73 []) h (fun N_12 Ac_13 Ch_14 h => ?_) (fun k_15 hk_15 h => ?_)
        · refine y_iconst cx d_L_placed_73 74 rfl ?_
          subst hQ
          obtain rfl := Option.some.inj h
          exact z_zret cx d_L_placed_74 (zb01 (by decide)) rfl rfl
        refine y_icmp_ne cx d_L_placed_60 63 rfl 73 (by decide) rfl rfl h (fun h => ?_) (fun h => ?_)
        · refine z_sub [] rfl ?_
          exact hk_15 _ _ _ h
        · refine z_aload_n cx d_L_placed_63 64 rfl rfl 0 rfl ?_
          refine z_iload_n cx d_L_placed_64 65 rfl rfl 2 rfl ?_
          refine y_callV_i (As := [.int (zI a3)]) (rest := []) (W := fun u_16 => wX g X u_16.2.1 T Rd Fr u_16.2.2.1 u_16.2.2.2 PS Ly Pa OT Ea Ga Im0 Im1 La) (rf := fun u_16 => zI u_16.1) (rm := zrX_place) cx (fun _ hq => tX_place hq) d_L_placed_65 68 rfl kk_X11_place q_898 q_899 q_900 rfl e_X rfl ⟨rfl, rfl⟩ ⟨Nat.le_of_ble_eq_true rfl, Nat.le_of_ble_eq_true rfl⟩ rfl rfl (Nat.le_of_ble_eq_true rfl) ⟨Nat.zero_le _, Nat.zero_le _⟩ h (fun u_16 h => ?_)
          refine z_iload cx d_L_placed_68 70 rfl 4 rfl ?_
          refine y_icmp_eq cx d_L_placed_70 73 rfl 75 (by decide) rfl rfl h (fun h => ?_) (fun h => ?_)
          · refine z_aload_n cx d_L_placed_75 76 rfl rfl 0 rfl ?_
            refine z_aload_n cx d_L_placed_76 77 rfl rfl 1 rfl ?_
            refine y_callS_i (As := [.ref (g.2.2 0), .ref (g.2.2 92)]) (rest := []) (W := fun u_17 => wX g X u_16.2.1 T Rd Fr u_16.2.2.1 u_16.2.2.2 PS Ly Pa OT Ea Ga Im0 Im1 La) (rf := fun u_17 => zI u_17) (rm := zrL_lying) cx (fun _ hq => tL_lying hq) d_L_placed_77 80 rfl kk_L_lying q_879 q_880 ⟨rfl, rfl⟩ ⟨Nat.le_of_ble_eq_true rfl, Nat.le_of_ble_eq_true rfl⟩ rfl rfl (Nat.le_of_ble_eq_true rfl) ⟨Nat.zero_le _, Nat.zero_le _⟩ h (fun u_17 h => ?_)
            refine y_istore cx d_L_placed_80 82 rfl (by decide) (lv' := [(6, .int (zI u_17)), (0, .ref (g.2.2 0)), (1, .ref (g.2.2 92)), (2, .int (zI a3)), (3, .int (zI u_1)), (4, .int (zI u_2.1))]) rfl ?_
            refine z_iload cx d_L_placed_82 84 rfl 5 rfl ?_
            refine y_if_le cx d_L_placed_84 87 rfl 202 (by decide) rfl h (fun h => ?_) (fun h => ?_)
            · refine z_iload cx d_L_placed_202 204 rfl 0 rfl ?_
              refine z_iload_n cx d_L_placed_204 205 rfl rfl 4 rfl ?_
              refine kf1_f (P := fun (w0_18 : Int) => V p l e zrL_placed s m args below meth c A s.heap g 10 Q (wX g X u_16.2.1 T Rd Fr u_16.2.2.1 u_16.2.2.2 PS Ly Pa OT Ea Ga Im0 Im1 La) 0 0 [] 264 [.int (zI w0_18)]) h (fun w0_18 h => ?_) (fun k_19 hk_19 h => ?_)
              · obtain ⟨hz, h⟩ := zo_i h
                subst hQ
                obtain rfl := Option.some.inj h
                exact z_zret cx d_L_placed_264 (zb01 hz) rfl rfl
              refine kf0_f (P := V p l e zrL_placed s m args below meth c A s.heap g 10 Q (wX g X u_16.2.1 T Rd Fr u_16.2.2.1 u_16.2.2.2 PS Ly Pa OT Ea Ga Im0 Im1 La) 0 0 [] 263 []) h (fun h => ?_) (fun k_20 hk_20 h => ?_)
              · refine y_iconst cx d_L_placed_263 264 rfl ?_
                exact hk_19 _ h
              refine y_icmp_ne cx d_L_placed_205 208 rfl 263 (by decide) rfl rfl h (fun h => ?_) (fun h => ?_)
              · refine z_sub [] rfl ?_
                exact hk_20  h
              · refine z_iload cx d_L_placed_208 210 rfl 5 rfl ?_
                refine kf0_f (P := V p l e zrL_placed s m args below meth c A s.heap g 10 Q (wX g X u_16.2.1 T Rd Fr u_16.2.2.1 u_16.2.2.2 PS Ly Pa OT Ea Ga Im0 Im1 La) 0 0 [] 259 []) h (fun h => ?_) (fun k_21 hk_21 h => ?_)
                · refine y_iconst cx d_L_placed_259 260 rfl ?_
                  refine z_goto cx d_L_placed_260 264 (by decide) ?_
                  exact hk_19 _ h
                refine y_if_lt cx d_L_placed_210 213 rfl 259 (by decide) rfl h (fun h => ?_) (fun h => ?_)
                · refine z_sub [] rfl ?_
                  exact hk_21  h
                · refine z_aload_n cx d_L_placed_213 214 rfl rfl 2 rfl ?_
                  refine z_aload_n cx d_L_placed_214 215 rfl rfl 1 rfl ?_
                  refine y_callV_i (As := []) (rest := [.ref (g.2.2 92)]) (W := fun u_22 => wX g X u_16.2.1 T Rd Fr u_16.2.2.1 u_16.2.2.2 PS Ly Pa OT Ea Ga Im0 Im1 La) (rf := fun u_22 => zI u_22) (rm := zrX_crowd) cx (fun _ hq => tX_crowd hq) d_L_placed_215 218 rfl kk_X11_crowd q_910 q_911 q_912 rfl e_X rfl ⟨rfl, rfl⟩ ⟨Nat.le_of_ble_eq_true rfl, Nat.le_of_ble_eq_true rfl⟩ rfl rfl (Nat.le_of_ble_eq_true rfl) ⟨Nat.zero_le _, Nat.zero_le _⟩ h (fun u_22 h => ?_)
                  refine z_aload_n cx d_L_placed_218 219 rfl rfl 1 rfl ?_
                  refine z_aload_n cx d_L_placed_219 220 rfl rfl 2 rfl ?_
                  refine y_callS_i (As := [.ref (g.2.2 0), .ref (g.2.2 92)]) (rest := [.int (zI u_22), .ref (g.2.2 92)]) (W := fun u_23 => wX g X u_16.2.1 T Rd Fr u_16.2.2.1 u_16.2.2.2 PS Ly Pa OT Ea Ga Im0 Im1 La) (rf := fun u_23 => zI u_23) (rm := zrL_sound) cx (fun _ hq => tL_sound hq) d_L_placed_220 223 rfl kk_L_sound q_882 q_883 ⟨rfl, rfl⟩ ⟨Nat.le_of_ble_eq_true rfl, Nat.le_of_ble_eq_true rfl⟩ rfl rfl (Nat.le_of_ble_eq_true rfl) ⟨Nat.zero_le _, Nat.zero_le _⟩ h (fun u_23 h => ?_)
                  refine y_callS_i (As := [.ref (g.2.2 92), .int (zI u_22), .int (zI u_23)]) (rest := []) (W := fun u_24 => wX g X u_16.2.1 T Rd Fr u_16.2.2.1 u_16.2.2.2 PS Ly Pa OT Ea Ga Im0 Im1 La) (rf := fun u_24 => zI u_24) (rm := zrL_inner) cx (fun _ hq => tL_inner hq) d_L_placed_223 226 rfl kk_L_inner q_918 q_919 ⟨rfl, rfl⟩ ⟨Nat.le_of_ble_eq_true rfl, Nat.le_of_ble_eq_true rfl⟩ rfl rfl (Nat.le_of_ble_eq_true rfl) ⟨Nat.zero_le _, Nat.zero_le _⟩ h (fun u_24 h => ?_)
                  refine z_aload_n cx d_L_placed_226 227 rfl rfl 1 rfl ?_
                  refine y_iconst cx d_L_placed_227 228 rfl ?_
                  refine y_callV_i (As := [.int (zI 2)]) (rest := [.int (zI u_24)]) (W := fun u_25 => wX g X u_16.2.1 T Rd Fr u_16.2.2.1 u_16.2.2.2 PS Ly Pa OT Ea Ga Im0 Im1 La) (rf := fun u_25 => zI u_25) (rm := zrX_now) cx (fun _ hq => tX_now hq) d_L_placed_228 231 rfl kk_X11_now q_834 q_835 q_836 rfl e_X rfl ⟨rfl, rfl⟩ ⟨Nat.le_of_ble_eq_true rfl, Nat.le_of_ble_eq_true rfl⟩ rfl rfl (Nat.le_of_ble_eq_true rfl) ⟨Nat.zero_le _, Nat.zero_le _⟩ h (fun u_25 h => ?_)
                  refine z_aload_n cx d_L_placed_231 232 rfl rfl 1 rfl ?_
                  refine y_callV_i (As := []) (rest := [.int (zI u_25), .int (zI u_24)]) (W := fun u_26 => wX g X u_16.2.1 T Rd Fr u_16.2.2.1 u_16.2.2.2 PS Ly Pa OT Ea Ga Im0 Im1 La) (rf := fun u_26 => zI u_26) (rm := zrX_crowd) cx (fun _ hq => tX_crowd hq) d_L_placed_232 235 rfl kk_X11_crowd q_910 q_911 q_912 rfl e_X rfl ⟨rfl, rfl⟩ ⟨Nat.le_of_ble_eq_true rfl, Nat.le_of_ble_eq_true rfl⟩ rfl rfl (Nat.le_of_ble_eq_true rfl) ⟨Nat.zero_le _, Nat.zero_le _⟩ h (fun u_26 h => ?_)
                  refine y_callS_i (As := [.int (zI u_26)]) (rest := [.int (zI u_25), .int (zI u_24)]) (W := fun u_27 => wX g X u_16.2.1 T Rd Fr u_16.2.2.1 u_16.2.2.2 PS Ly Pa OT Ea Ga Im0 Im1 La) (rf := fun u_27 => zI u_27) (rm := zr0) cx (fun _ hq => tL_bits hq) d_L_placed_235 238 rfl kk_L_bits q_861 q_862 ⟨rfl, rfl⟩ ⟨Nat.le_of_ble_eq_true rfl, Nat.le_of_ble_eq_true rfl⟩ rfl rfl (Nat.le_of_ble_eq_true rfl) ⟨Nat.zero_le _, Nat.zero_le _⟩ h (fun u_27 h => ?_)
                  refine y_iconst cx d_L_placed_238 239 rfl ?_
                  refine y_isub cx d_L_placed_239 240 rfl ?_
                  refine y_imul cx d_L_placed_240 241 rfl ?_
                  refine y_icmp_le cx d_L_placed_241 244 rfl 263 (by decide) rfl rfl h (fun h => ?_) (fun h => ?_)
                  · refine z_sub [] rfl ?_
                    exact hk_20  h
                  · refine z_aload_n cx d_L_placed_244 245 rfl rfl 2 rfl ?_
                    refine z_iload_n cx d_L_placed_245 246 rfl rfl 3 rfl ?_
                    refine y_callS_i (As := [.ref (g.2.2 92), .int (zI a3)]) (rest := []) (W := fun u_28 => wX g X u_16.2.1 T Rd Fr u_16.2.2.1 u_16.2.2.2 PS Ly Pa OT Ea Ga Im0 Im1 La) (rf := fun u_28 => zI u_28) (rm := zr0) cx (fun _ hq => tL_ends hq) d_L_placed_246 249 rfl kk_L_ends q_876 q_877 ⟨rfl, rfl⟩ ⟨Nat.le_of_ble_eq_true rfl, Nat.le_of_ble_eq_true rfl⟩ rfl rfl (Nat.le_of_ble_eq_true rfl) ⟨Nat.zero_le _, Nat.zero_le _⟩ h (fun u_28 h => ?_)
                    refine z_aload_n cx d_L_placed_249 250 rfl rfl 1 rfl ?_
                    refine y_callV_i (As := []) (rest := [.int (zI u_28)]) (W := fun u_29 => wX g X u_16.2.1 T Rd Fr u_16.2.2.1 u_16.2.2.2 PS Ly Pa OT Ea Ga Im0 Im1 La) (rf := fun u_29 => zI u_29) (rm := zrX_crowd) cx (fun _ hq => tX_crowd hq) d_L_placed_250 253 rfl kk_X11_crowd q_910 q_911 q_912 rfl e_X rfl ⟨rfl, rfl⟩ ⟨Nat.le_of_ble_eq_true rfl, Nat.le_of_ble_eq_true rfl⟩ rfl rfl (Nat.le_of_ble_eq_true rfl) ⟨Nat.zero_le _, Nat.zero_le _⟩ h (fun u_29 h => ?_)
                    refine y_iconst cx d_L_placed_253 254 rfl ?_
                    refine y_ixor cx d_L_placed_254 255 rfl ?_
                    refine y_iand cx d_L_placed_255 256 rfl ?_
                    refine y_if_ne cx d_L_placed_256 259 rfl 263 (by decide) (nm_zand _ _) h (fun h => ?_) (fun h => ?_)
                    · refine z_sub [] rfl ?_
                      exact hk_20  h
                    · refine z_sub [] rfl ?_
                      exact hk_21  h
            · refine z_iload cx d_L_placed_87 89 rfl 0 rfl ?_
              refine z_iload_n cx d_L_placed_89 90 rfl rfl 4 rfl ?_
              refine y_iconst cx d_L_placed_90 91 rfl ?_
              refine z_iload_n cx d_L_placed_91 92 rfl rfl 3 rfl ?_
              refine y_ishl cx d_L_placed_92 93 rfl ?_
              refine y_ior cx d_L_placed_93 94 rfl ?_
              refine kf0_f (P := V p l e zrL_placed s m args below meth c A s.heap g 10 Q (wX g X u_16.2.1 T Rd Fr u_16.2.2.1 u_16.2.2.2 PS Ly Pa OT Ea Ga Im0 Im1 La) 0 0 [] 118 []) h (fun h => ?_) (fun k_30 hk_30 h => ?_)
              · refine y_iconst cx d_L_placed_118 119 rfl ?_
                subst hQ
                obtain rfl := Option.some.inj h
                exact z_zret cx d_L_placed_119 (zb01 (by decide)) rfl rfl
              refine y_icmp_ne cx d_L_placed_94 97 rfl 118 (by decide) rfl (nm_zor _ _) h (fun h => ?_) (fun h => ?_)
              · refine z_sub [] rfl ?_
                exact hk_30  h
              · refine z_aload_n cx d_L_placed_97 98 rfl rfl 1 rfl ?_
                refine y_iconst cx d_L_placed_98 99 rfl ?_
                refine y_iconst cx d_L_placed_99 100 rfl ?_
                refine y_callV_i (As := [.int (zI 0), .int (zI 0)]) (rest := []) (W := fun u_31 => wX g X u_16.2.1 T Rd Fr u_16.2.2.1 u_16.2.2.2 PS Ly Pa OT Ea Ga Im0 Im1 La) (rf := fun u_31 => zI u_31) (rm := zrX_chainAt) cx (fun _ hq => tX_chainAt hq) d_L_placed_100 103 rfl kk_X11_chainAt q_902 q_903 q_904 rfl e_X rfl ⟨rfl, rfl⟩ ⟨Nat.le_of_ble_eq_true rfl, Nat.le_of_ble_eq_true rfl⟩ rfl rfl (Nat.le_of_ble_eq_true rfl) ⟨Nat.zero_le _, Nat.zero_le _⟩ h (fun u_31 h => ?_)
                refine z_iload_n cx d_L_placed_103 104 rfl rfl 3 rfl ?_
                refine y_icmp_ne cx d_L_placed_104 107 rfl 118 (by decide) rfl rfl h (fun h => ?_) (fun h => ?_)
                · refine z_sub [] rfl ?_
                  exact hk_30  h
                · refine z_aload_n cx d_L_placed_107 108 rfl rfl 1 rfl ?_
                  refine z_iload cx d_L_placed_108 110 rfl 5 rfl ?_
                  refine y_iconst cx d_L_placed_110 111 rfl ?_
                  refine y_callV_i (As := [.int (zI u_2.1), .int (zI 0)]) (rest := []) (W := fun u_32 => wX g X u_16.2.1 T Rd Fr u_16.2.2.1 u_16.2.2.2 PS Ly Pa OT Ea Ga Im0 Im1 La) (rf := fun u_32 => zI u_32) (rm := zrX_chainAt) cx (fun _ hq => tX_chainAt hq) d_L_placed_111 114 rfl kk_X11_chainAt q_902 q_903 q_904 rfl e_X rfl ⟨rfl, rfl⟩ ⟨Nat.le_of_ble_eq_true rfl, Nat.le_of_ble_eq_true rfl⟩ rfl rfl (Nat.le_of_ble_eq_true rfl) ⟨Nat.zero_le _, Nat.zero_le _⟩ h (fun u_32 h => ?_)
                  refine y_iconst cx d_L_placed_114 115 rfl ?_
                  refine y_icmp_eq cx d_L_placed_115 118 rfl 120 (by decide) rfl (nm_eq (x := (-1)) (by decide) (by decide)) h (fun h => ?_) (fun h => ?_)
                  · refine y_iconst cx d_L_placed_120 121 rfl ?_
                    refine y_istore cx d_L_placed_121 123 rfl (by decide) (lv' := [(7, .int (zI 0)), (6, .int (zI u_17)), (0, .ref (g.2.2 0)), (1, .ref (g.2.2 92)), (2, .int (zI a3)), (3, .int (zI u_1)), (4, .int (zI u_2.1))]) rfl ?_
                    refine y_iconst cx d_L_placed_123 124 rfl ?_
                    refine y_istore cx d_L_placed_124 126 rfl (by decide) (lv' := [(8, .int (zI 0)), (7, .int (zI 0)), (6, .int (zI u_17)), (0, .ref (g.2.2 0)), (1, .ref (g.2.2 92)), (2, .int (zI a3)), (3, .int (zI u_1)), (4, .int (zI u_2.1))]) rfl ?_
                    refine z_sub [3, 4, 7, 1, 0] rfl ?_
                    refine lop2_f (P := fun (v7_33 : Int) (v8_34 : Int) => V p l e zrL_placed s m args below meth c A s.heap g 10 Q (wX g X u_16.2.1 T Rd Fr u_16.2.2.1 u_16.2.2.2 PS Ly Pa OT Ea Ga Im0 Im1 La) 0 0 [(0, .ref (g.2.2 0)), (1, .ref (g.2.2 92)), (4, .int (zI u_2.1)), (7, .int (zI v7_33)), (8, .int (zI v8_34))] 126 []) (fun rec_35 hrec_35 v7_33 v8_34 h => ?_) _ _ _ h
                    refine z_iload cx d_L_placed_126 128 rfl 4 rfl ?_
                    refine z_iload cx d_L_placed_128 130 rfl 2 rfl ?_
                    refine y_icmp_ge cx d_L_placed_130 133 rfl 200 (by decide) rfl rfl h (fun h => ?_) (fun h => ?_)
                    · refine y_iconst cx d_L_placed_200 201 rfl ?_
                      subst hQ
                      obtain rfl := Option.some.inj h
                      exact z_zret cx d_L_placed_201 (zb01 (by decide)) rfl rfl
                    · refine z_aload_n cx d_L_placed_133 134 rfl rfl 0 rfl ?_
                      refine z_iload cx d_L_placed_134 136 rfl 4 rfl ?_
                      refine y_iconst cx d_L_placed_136 137 rfl ?_
                      refine y_callV_i (As := [.int (zI v8_34), .int (zI 0)]) (rest := []) (W := fun u_36 => wX g X u_16.2.1 T Rd Fr u_16.2.2.1 u_16.2.2.2 PS Ly Pa OT Ea Ga Im0 Im1 La) (rf := fun u_36 => zI u_36) (rm := zrX_chainAt) cx (fun _ hq => tX_chainAt hq) d_L_placed_137 140 rfl kk_X11_chainAt q_902 q_903 q_904 rfl e_X rfl ⟨rfl, rfl⟩ ⟨Nat.le_of_ble_eq_true rfl, Nat.le_of_ble_eq_true rfl⟩ rfl rfl (Nat.le_of_ble_eq_true rfl) ⟨Nat.zero_le _, Nat.zero_le _⟩ h (fun u_36 h => ?_)
                      refine y_istore cx d_L_placed_140 142 rfl (by decide) (lv' := [(9, .int (zI u_36)), (0, .ref (g.2.2 0)), (1, .ref (g.2.2 92)), (4, .int (zI u_2.1)), (7, .int (zI v7_33)), (8, .int (zI v8_34))]) rfl ?_
                      refine z_iload cx d_L_placed_142 144 rfl 0 rfl ?_
                      refine kf0_f (P := V p l e zrL_placed s m args below meth c A s.heap g 10 Q (wX g X u_16.2.1 T Rd Fr u_16.2.2.1 u_16.2.2.2 PS Ly Pa OT Ea Ga Im0 Im1 La) 0 0 [] 183 []) h (fun h => ?_) (fun k_37 hk_37 h => ?_)
                      · refine y_iconst cx d_L_placed_183 184 rfl ?_
                        subst hQ
                        obtain rfl := Option.some.inj h
                        exact z_zret cx d_L_placed_184 (zb01 (by decide)) rfl rfl
                      refine y_if_lt cx d_L_placed_144 147 rfl 183 (by decide) rfl h (fun h => ?_) (fun h => ?_)
                      · refine z_sub [] rfl ?_
                        exact hk_37  h
                      · refine z_iload cx d_L_placed_147 149 rfl 0 rfl ?_
                        refine z_aload_n cx d_L_placed_149 150 rfl rfl 2 rfl ?_
                        refine y_iconst cx d_L_placed_150 151 rfl ?_
                        refine y_ialdx cx d_L_placed_151 152 rfl e_La_v (by decide) h (fun x_38 h => ?_)
                        refine y_icmp_ge cx d_L_placed_152 155 rfl 183 (by decide) rfl rfl h (fun h => ?_) (fun h => ?_)
                        · refine z_sub [] rfl ?_
                          exact hk_37  h
                        · refine z_iload cx d_L_placed_155 157 rfl 4 rfl ?_
                          refine z_iload cx d_L_placed_157 159 rfl 0 rfl ?_
                          refine y_callS_i (As := [.int (zI v7_33), .int (zI u_36)]) (rest := []) (W := fun u_39 => wX g X u_16.2.1 T Rd Fr u_16.2.2.1 u_16.2.2.2 PS Ly Pa OT Ea Ga Im0 Im1 La) (rf := fun u_39 => zI u_39) (rm := zr0) cx (fun _ hq => tL_has hq) d_L_placed_159 162 rfl kk_L_has q_864 q_865 ⟨rfl, rfl⟩ ⟨Nat.le_of_ble_eq_true rfl, Nat.le_of_ble_eq_true rfl⟩ rfl rfl (Nat.le_of_ble_eq_true rfl) ⟨Nat.zero_le _, Nat.zero_le _⟩ h (fun u_39 h => ?_)
                          refine y_if_ne cx d_L_placed_162 165 rfl 183 (by decide) rfl h (fun h => ?_) (fun h => ?_)
                          · refine z_sub [] rfl ?_
                            exact hk_37  h
                          · refine z_aload_n cx d_L_placed_165 166 rfl rfl 1 rfl ?_
                            refine y_iconst cx d_L_placed_166 167 rfl ?_
                            refine z_iload cx d_L_placed_167 169 rfl 0 rfl ?_
                            refine y_iconst cx d_L_placed_169 170 rfl ?_
                            refine y_callSh (As := [.ref (g.2.2 0), .int (zI 0), .int (zI u_36), .int (zI 3)]) (rest := []) (W := fun u_40 => wX g X u_16.2.1 T Rd Fr u_16.2.2.1 u_16.2.2.2 PS Ly Pa OT Ea Ga Im0 Im1 La) (rf := fun u_40 => zI u_40) (rm := zrL_its) cx (fun _ hq => tL_its hq) d_L_placed_170 173 rfl qh_its q_26 qh_itsy q_607 q_608 ⟨rfl, rfl⟩ ⟨Nat.le_of_ble_eq_true rfl, Nat.le_of_ble_eq_true rfl⟩ rfl rfl (Nat.le_of_ble_eq_true rfl) ⟨Nat.zero_le _, Nat.zero_le _⟩ h (fun u_40 h => ?_)
                            refine z_aload_n cx d_L_placed_173 174 rfl rfl 1 rfl ?_
                            refine z_iload cx d_L_placed_174 176 rfl 5 rfl ?_
                            refine y_iconst cx d_L_placed_176 177 rfl ?_
                            refine y_callV_i (As := [.int (zI v8_34), .int (zI 1)]) (rest := [.int (zI u_40)]) (W := fun u_41 => wX g X u_16.2.1 T Rd Fr u_16.2.2.1 u_16.2.2.2 PS Ly Pa OT Ea Ga Im0 Im1 La) (rf := fun u_41 => zI u_41) (rm := zrX_chainAt) cx (fun _ hq => tX_chainAt hq) d_L_placed_177 180 rfl kk_X11_chainAt q_902 q_903 q_904 rfl e_X rfl ⟨rfl, rfl⟩ ⟨Nat.le_of_ble_eq_true rfl, Nat.le_of_ble_eq_true rfl⟩ rfl rfl (Nat.le_of_ble_eq_true rfl) ⟨Nat.zero_le _, Nat.zero_le _⟩ h (fun u_41 h => ?_)
                            refine y_icmp_eq cx d_L_placed_180 183 rfl 185 (by decide) rfl rfl h (fun h => ?_) (fun h => ?_)
                            · refine z_iload cx d_L_placed_185 187 rfl 4 rfl ?_
                              refine y_iconst cx d_L_placed_187 188 rfl ?_
                              refine z_iload cx d_L_placed_188 190 rfl 0 rfl ?_
                              refine y_ishl cx d_L_placed_190 191 rfl ?_
                              refine y_ior cx d_L_placed_191 192 rfl ?_
                              refine y_istore_b cx d_L_placed_192 194 rfl (by decide) (fun y => [(7, .int (zI y)), (9, .int (zI u_36)), (0, .ref (g.2.2 0)), (1, .ref (g.2.2 92)), (4, .int (zI u_2.1)), (8, .int (zI v8_34))]) (fun y => rfl) h (fun v7_42 h => ?_)
                              refine y_iinc cx 5 d_L_placed_194 197 rfl rfl (by decide) (lv' := [(8, .int (zI (v8_34 + 1))), (7, .int (zI v7_42)), (9, .int (zI u_36)), (0, .ref (g.2.2 0)), (1, .ref (g.2.2 92)), (4, .int (zI u_2.1))]) rfl ?_
                              refine z_goto cx d_L_placed_197 126 (by decide) ?_
                              refine z_sub [3, 4, 5, 1, 0] rfl ?_
                              exact hrec_35 _ _ h
                            · refine z_sub [] rfl ?_
                              exact hk_37  h
                  · refine z_sub [] rfl ?_
                    exact hk_30  h
          · refine z_sub [] rfl ?_
            exact hk_15 _ _ _ h
      refine y_if_ne cx d_L_placed_52 55 rfl 59 (by decide) rfl h (fun h => ?_) (fun h => ?_)
      · refine y_iconst cx d_L_placed_59 60 rfl ?_
        refine z_sub [0, 1, 2, 3, 4] rfl ?_
        exact hk_11 _ _ h
      · refine y_iconst cx d_L_placed_55 56 rfl ?_
        refine z_goto cx d_L_placed_56 60 (by decide) ?_
        refine z_sub [0, 1, 2, 3, 4] rfl ?_
        exact hk_11 _ _ h
    refine y_if_ge cx d_L_placed_42 45 rfl 49 (by decide) rfl h (fun h => ?_) (fun h => ?_)
    · refine y_iconst cx d_L_placed_49 50 rfl ?_
      refine z_sub [1, 2, 3, 4, 5, 0] rfl ?_
      exact hk_8 _ h
    · refine y_iconst cx d_L_placed_45 46 rfl ?_
      refine z_goto cx d_L_placed_46 50 (by decide) ?_
      refine z_sub [1, 2, 3, 4, 5, 0] rfl ?_
      exact hk_8 _ h
  refine kf0_f (P := V p l e zrL_placed s m args below meth c A s.heap g 10 Q (wX g X N T Rd Fr Ac u_2.2 PS Ly Pa OT Ea Ga Im0 Im1 La) 0 0 [(0, .ref (g.2.2 0)), (1, .ref (g.2.2 92)), (2, .int (zI a3)), (3, .int (zI u_1)), (4, .int (zI u_2.1))] 37 []) h (fun h => ?_) (fun k_43 hk_43 h => ?_)
  · refine y_iconst cx d_L_placed_37 38 rfl ?_
    exact hk_6 _ h
  refine y_if_eq cx d_L_placed_22 25 rfl 37 (by decide) rfl h (fun h => ?_) (fun h => ?_)
  · refine z_sub [2, 3, 4, 1, 0] rfl ?_
    exact hk_43  h
  · refine z_iload_n cx d_L_placed_25 26 rfl rfl 1 rfl ?_
    refine z_iload_n cx d_L_placed_26 27 rfl rfl 4 rfl ?_
    refine y_callS_i (As := [.int (zI u_1), .int (zI a3)]) (rest := []) (W := fun u_44 => wX g X N T Rd Fr Ac u_2.2 PS Ly Pa OT Ea Ga Im0 Im1 La) (rf := fun u_44 => zI u_44) (rm := zr0) cx (fun _ hq => tL_has hq) d_L_placed_27 30 rfl kk_L_has q_864 q_865 ⟨rfl, rfl⟩ ⟨Nat.le_of_ble_eq_true rfl, Nat.le_of_ble_eq_true rfl⟩ rfl rfl (Nat.le_of_ble_eq_true rfl) ⟨Nat.zero_le _, Nat.zero_le _⟩ h (fun u_44 h => ?_)
    refine y_if_ne cx d_L_placed_30 33 rfl 37 (by decide) rfl h (fun h => ?_) (fun h => ?_)
    · refine z_sub [2, 3, 4, 1, 0] rfl ?_
      exact hk_43  h
    · refine y_iconst cx d_L_placed_33 34 rfl ?_
      refine z_goto cx d_L_placed_34 38 (by decide) ?_
      refine z_sub [2, 3, 4, 1, 0] rfl ?_
      exact hk_6 _ h
