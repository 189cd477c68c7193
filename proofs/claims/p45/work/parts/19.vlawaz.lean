-- needs: 19.vlawa
/-! the law's methods, walked: tells -/
def zrL_tells : Room := { frames := 9, cells := 1, slots := 6, locals := 224 }
set_option maxHeartbeats 40000000 in
theorem tL_tells {l : Launch} {ks : ZS} {g : ZG} {X : ZB} {N : ZB} {T : ZB} {Rd : ZB} {Fr : ZB} {Ac : ZA} {Ch : ZB} {PS : ZB} {Ly : ZB} {Pa : ZQ} {OT : ZB} {Ea : ZB} {Ga : ZB} {Im0 : ZO} {Im1 : ZO} {La : ZB} {a5 : Int} {r : Int × ZB × ZB × ZB × ZB × ZA × ZB} (h : fL_tells N T Rd Fr Ac La a5 = some r) (hl9 : l.stackTraces = false) : zMe l ks yL_tells cL_tells 9 (some .boolean) zrL_tells 1 6 g [.ref (g.2.2 0), .ref (g.2.2 91), .ref (g.2.2 92), .ref (g.2.2 93), .int (zI a5)] (wX g X N T Rd Fr Ac Ch PS Ly Pa OT Ea Ga Im0 Im1 La) (wX g X r.2.1 r.2.2.1 r.2.2.2.1 r.2.2.2.2.1 r.2.2.2.2.2.1 Ch PS Ly Pa OT Ea Ga Im0 Im1 r.2.2.2.2.2.2) (zI r.1) := by
  unfold fL_tells at h
  refine zMe_of (own := RL) rfl (by decide +kernel) (Nat.le_of_ble_eq_true rfl) (lv := [(0, .ref (g.2.2 0)), (1, .ref (g.2.2 91)), (2, .ref (g.2.2 92)), (3, .ref (g.2.2 93)), (4, .int (zI a5))]) rfl ?_
  intro p e s m args below meth c A Q hQ cx hE
  refine z_aload_n cx d_L_tells_0 1 rfl rfl 2 rfl ?_
  refine y_iconst cx d_L_tells_1 2 rfl ?_
  refine y_iconst cx d_L_tells_2 3 rfl ?_
  refine z_aload_n cx d_L_tells_3 4 rfl rfl 3 rfl ?_
  refine z_iload cx d_L_tells_4 6 rfl 4 rfl ?_
  refine y_iconst cx d_L_tells_6 7 rfl ?_
  refine y_isub cx d_L_tells_7 8 rfl ?_
  refine y_callS_i (As := [.ref (g.2.2 93), .int (zI (a5 - 1))]) (rest := [.int (zI 2), .int (zI 0), .ref (g.2.2 92)]) (W := fun u_1 => wX g X N T Rd Fr Ac Ch PS Ly Pa OT Ea Ga Im0 Im1 u_1.2) (rf := fun u_1 => zI u_1.1) (rm := zr0) cx (fun _ hq => tL_draw hq) d_L_tells_8 11 rfl kk_L_draw q_689 q_690 ⟨rfl, rfl⟩ ⟨Nat.le_of_ble_eq_true rfl, Nat.le_of_ble_eq_true rfl⟩ rfl rfl (Nat.le_of_ble_eq_true rfl) ⟨Nat.zero_le _, Nat.zero_le _⟩ h (fun u_1 h => ?_)
  refine y_iadd cx d_L_tells_11 12 rfl ?_
  refine y_iast cx d_L_tells_12 13 rfl e_La_v (by decide) h (fun _ h9 => s_La_v h9) (fun La_2 h => ?_)
  refine z_aload_n cx d_L_tells_13 14 rfl rfl 2 rfl ?_
  refine y_iconst cx d_L_tells_14 15 rfl ?_
  refine z_aload_n cx d_L_tells_15 16 rfl rfl 3 rfl ?_
  refine y_bipush cx d_L_tells_16 18 rfl (by decide) ?_
  refine y_callS_i (As := [.ref (g.2.2 93), .int (zI 15)]) (rest := [.int (zI 1), .ref (g.2.2 92)]) (W := fun u_3 => wX g X N T Rd Fr Ac Ch PS Ly Pa OT Ea Ga Im0 Im1 u_3.2) (rf := fun u_3 => zI u_3.1) (rm := zr0) cx (fun _ hq => tL_draw hq) d_L_tells_18 21 rfl kk_L_draw q_689 q_690 ⟨rfl, rfl⟩ ⟨Nat.le_of_ble_eq_true rfl, Nat.le_of_ble_eq_true rfl⟩ rfl rfl (Nat.le_of_ble_eq_true rfl) ⟨Nat.zero_le _, Nat.zero_le _⟩ h (fun u_3 h => ?_)
  refine y_iast cx d_L_tells_21 22 rfl e_La_v (by decide) h (fun _ h9 => s_La_v h9) (fun La_4 h => ?_)
  refine z_aload_n cx d_L_tells_22 23 rfl rfl 2 rfl ?_
  refine y_iconst cx d_L_tells_23 24 rfl ?_
  refine y_iconst cx d_L_tells_24 25 rfl ?_
  refine z_aload_n cx d_L_tells_25 26 rfl rfl 3 rfl ?_
  refine y_iconst cx d_L_tells_26 27 rfl ?_
  refine y_callS_i (As := [.ref (g.2.2 93), .int (zI 4)]) (rest := [.int (zI 1), .int (zI 2), .ref (g.2.2 92)]) (W := fun u_5 => wX g X N T Rd Fr Ac Ch PS Ly Pa OT Ea Ga Im0 Im1 u_5.2) (rf := fun u_5 => zI u_5.1) (rm := zr0) cx (fun _ hq => tL_draw hq) d_L_tells_27 30 rfl kk_L_draw q_689 q_690 ⟨rfl, rfl⟩ ⟨Nat.le_of_ble_eq_true rfl, Nat.le_of_ble_eq_true rfl⟩ rfl rfl (Nat.le_of_ble_eq_true rfl) ⟨Nat.zero_le _, Nat.zero_le _⟩ h (fun u_5 h => ?_)
  refine y_iadd cx d_L_tells_30 31 rfl ?_
  refine y_iast cx d_L_tells_31 32 rfl e_La_v (by decide) h (fun _ h9 => s_La_v h9) (fun La_6 h => ?_)
  refine y_iconst cx d_L_tells_32 33 rfl ?_
  refine y_istore cx d_L_tells_33 35 rfl (by decide) (lv' := [(5, .int (zI 0)), (0, .ref (g.2.2 0)), (1, .ref (g.2.2 91)), (2, .ref (g.2.2 92)), (3, .ref (g.2.2 93)), (4, .int (zI a5))]) rfl ?_
  refine y_iconst cx d_L_tells_35 36 rfl ?_
  refine y_istore cx d_L_tells_36 38 rfl (by decide) (lv' := [(6, .int (zI 0)), (5, .int (zI 0)), (0, .ref (g.2.2 0)), (1, .ref (g.2.2 91)), (2, .ref (g.2.2 92)), (3, .ref (g.2.2 93)), (4, .int (zI a5))]) rfl ?_
  refine z_sub [2, 3, 4, 5, 1, 0] rfl ?_
  refine lop3_f (P := fun (v5_7 : Int) (v6_8 : Int) (La_9 : ZB) => V p l e zrL_tells s m args below meth c A s.heap g 9 Q (wX g X N T Rd Fr Ac Ch PS Ly Pa OT Ea Ga Im0 Im1 La_9) 0 0 [(0, .ref (g.2.2 0)), (1, .ref (g.2.2 91)), (2, .ref (g.2.2 92)), (3, .ref (g.2.2 93)), (5, .int (zI v5_7)), (6, .int (zI v6_8))] 38 []) (fun rec_10 hrec_10 v5_7 v6_8 La_9 h => ?_) _ _ _ _ h
  refine z_iload cx d_L_tells_38 40 rfl 5 rfl ?_
  refine z_aload_n cx d_L_tells_40 41 rfl rfl 2 rfl ?_
  refine y_iconst cx d_L_tells_41 42 rfl ?_
  refine y_ialdx cx d_L_tells_42 43 rfl e_La_v (by decide) h (fun x_11 h => ?_)
  refine y_icmp_ge cx d_L_tells_43 46 rfl 77 (by decide) rfl rfl h (fun h => ?_) (fun h => ?_)
  · refine y_iconst cx d_L_tells_77 78 rfl ?_
    refine y_istore cx d_L_tells_78 80 rfl (by decide) (lv' := [(6, .int (zI 0)), (0, .ref (g.2.2 0)), (1, .ref (g.2.2 91)), (2, .ref (g.2.2 92)), (3, .ref (g.2.2 93)), (5, .int (zI v5_7))]) rfl ?_
    refine z_sub [1, 2, 3, 4, 5, 0] rfl ?_
    refine lop3_f (P := fun (v5_12 : Int) (v6_13 : Int) (La_14 : ZB) => V p l e zrL_tells s m args below meth c A s.heap g 9 Q (wX g X N T Rd Fr Ac Ch PS Ly Pa OT Ea Ga Im0 Im1 La_14) 0 0 [(0, .ref (g.2.2 0)), (1, .ref (g.2.2 91)), (2, .ref (g.2.2 92)), (3, .ref (g.2.2 93)), (5, .int (zI v5_12)), (6, .int (zI v6_13))] 80 []) (fun rec_15 hrec_15 v5_12 v6_13 La_14 h => ?_) _ _ _ _ h
    refine z_iload cx d_L_tells_80 82 rfl 5 rfl ?_
    refine z_aload_n cx d_L_tells_82 83 rfl rfl 2 rfl ?_
    refine y_iconst cx d_L_tells_83 84 rfl ?_
    refine y_ialdx cx d_L_tells_84 85 rfl e_La_v (by decide) h (fun x_16 h => ?_)
    refine y_icmp_ge cx d_L_tells_85 88 rfl 216 (by decide) rfl rfl h (fun h => ?_) (fun h => ?_)
    · refine z_aload_n cx d_L_tells_216 217 rfl rfl 1 rfl ?_
      refine z_aload_n cx d_L_tells_217 218 rfl rfl 1 rfl ?_
      refine z_aload_n cx d_L_tells_218 219 rfl rfl 1 rfl ?_
      refine z_iload cx d_L_tells_219 221 rfl 4 rfl ?_
      refine z_ldcS cx d_L_tells_221 223 rfl (hE.1.2.2.2.2.2.2.2.2.2.1.2) ?_
      refine y_callSe (As := [.ref (g.2.2 91), .int (zI v5_12), .ref (ks.1 5)]) (rest := [.ref (g.2.2 91), .ref (g.2.2 91)]) (W := fun u_17 => wX g X N T Rd Fr Ac Ch PS Ly Pa OT Ea Ga Im0 Im1 u_17.2) (rf := fun u_17 => zI u_17.1) (rm := zrL_add) cx hE (fun _ hq => tL_add5 hq) d_L_tells_223 226 rfl kk_L_add q_694 q_695 ⟨rfl, rfl⟩ ⟨Nat.le_of_ble_eq_true rfl, Nat.le_of_ble_eq_true rfl⟩ rfl rfl (Nat.le_of_ble_eq_true rfl) ⟨Nat.zero_le _, Nat.zero_le _⟩ h (fun u_17 h => ?_)
      refine z_aload_n cx d_L_tells_226 227 rfl rfl 2 rfl ?_
      refine y_iconst cx d_L_tells_227 228 rfl ?_
      refine y_ialdx cx d_L_tells_228 229 rfl e_La_v (by decide) h (fun x_18 h => ?_)
      refine y_callS_i (As := [.ref (g.2.2 91), .int (zI u_17.1), .int (zI x_18)]) (rest := [.ref (g.2.2 91)]) (W := fun u_19 => wX g X N T Rd Fr Ac Ch PS Ly Pa OT Ea Ga Im0 Im1 u_19.2) (rf := fun u_19 => zI u_19.1) (rm := zrL_number) cx (fun _ hq => tL_number hq) d_L_tells_229 232 rfl kk_L_number q_703 q_704 ⟨rfl, rfl⟩ ⟨Nat.le_of_ble_eq_true rfl, Nat.le_of_ble_eq_true rfl⟩ rfl rfl (Nat.le_of_ble_eq_true rfl) ⟨Nat.zero_le _, Nat.zero_le _⟩ h (fun u_19 h => ?_)
      refine y_bipush cx d_L_tells_232 234 rfl (by decide) ?_
      refine y_callS_i (As := [.ref (g.2.2 91), .int (zI u_19.1), .int (zI 59)]) (rest := []) (W := fun u_20 => wX g X N T Rd Fr Ac Ch PS Ly Pa OT Ea Ga Im0 Im1 u_20.2) (rf := fun u_20 => zI u_20.1) (rm := zr0) cx (fun _ hq => tL_put hq) d_L_tells_234 237 rfl kk_L_put q_699 q_700 ⟨rfl, rfl⟩ ⟨Nat.le_of_ble_eq_true rfl, Nat.le_of_ble_eq_true rfl⟩ rfl rfl (Nat.le_of_ble_eq_true rfl) ⟨Nat.zero_le _, Nat.zero_le _⟩ h (fun u_20 h => ?_)
      refine y_istore cx d_L_tells_237 239 rfl (by decide) (lv' := [(5, .int (zI u_20.1)), (0, .ref (g.2.2 0)), (1, .ref (g.2.2 91)), (2, .ref (g.2.2 92)), (3, .ref (g.2.2 93)), (6, .int (zI v6_13))]) rfl ?_
      refine z_aload_n cx d_L_tells_239 240 rfl rfl 1 rfl ?_
      refine z_aload_n cx d_L_tells_240 241 rfl rfl 2 rfl ?_
      refine z_iload cx d_L_tells_241 243 rfl 0 rfl ?_
      refine y_callS_i (As := [.ref (g.2.2 0), .ref (g.2.2 91), .int (zI u_20.1)]) (rest := []) (W := fun u_21 => wX g X N u_21.2 Rd Fr Ac Ch PS Ly Pa OT Ea Ga Im0 Im1 u_20.2) (rf := fun u_21 => zI u_21.1) (rm := zrL_lies) cx (fun _ hq => tL_lies hq) d_L_tells_243 246 rfl kk_L_lies q_707 q_708 ⟨rfl, rfl⟩ ⟨Nat.le_of_ble_eq_true rfl, Nat.le_of_ble_eq_true rfl⟩ rfl rfl (Nat.le_of_ble_eq_true rfl) ⟨Nat.zero_le _, Nat.zero_le _⟩ h (fun u_21 h => ?_)
      refine kf6_f (P := fun (w0_22 : Int) (N_23 : ZB) (T_24 : ZB) (Rd_25 : ZB) (Fr_26 : ZB) (Ac_27 : ZA) => V p l e zrL_tells s m args below meth c A s.heap g 9 Q (wX g X N_23 T_24 Rd_25 Fr_26 Ac_27 Ch PS Ly Pa OT Ea Ga Im0 Im1 u_20.2) 1 6 [] 325 [.int (zI w0_22)]) h (fun w0_22 N_23 T_24 Rd_25 Fr_26 Ac_27 h => ?_) (fun k_28 hk_28 h => ?_)
      · obtain ⟨hz, h⟩ := zo_i h
        subst hQ
        obtain rfl := Option.some.inj h
        exact z_zret cx d_L_tells_325 (zb01 hz) rfl rfl
      refine kf5_f (P := fun (N_29 : ZB) (T_30 : ZB) (Rd_31 : ZB) (Fr_32 : ZB) (Ac_33 : ZA) => V p l e zrL_tells s m args below meth c A s.heap g 9 Q (wX g X N_29 T_30 Rd_31 Fr_32 Ac_33 Ch PS Ly Pa OT Ea Ga Im0 Im1 u_20.2) 1 6 [] 324 []) h (fun N_29 T_30 Rd_31 Fr_32 Ac_33 h => ?_) (fun k_34 hk_34 h => ?_)
      · refine y_iconst cx d_L_tells_324 325 rfl ?_
        refine z_widen (k := 1) (n := 6) (Nat.le_of_ble_eq_true rfl) (Nat.le_of_ble_eq_true rfl) ?_
        exact hk_28 _ _ _ _ _ _ h
      refine y_if_eq cx d_L_tells_246 249 rfl 324 (by decide) rfl h (fun h => ?_) (fun h => ?_)
      · refine z_widen (k := 1) (n := 6) (Nat.le_of_ble_eq_true rfl) (Nat.le_of_ble_eq_true rfl) ?_
        refine z_sub [] rfl ?_
        exact hk_34 _ _ _ _ _ h
      · refine z_aload_n cx d_L_tells_249 250 rfl rfl 1 rfl ?_
        refine y_callV_i (As := []) (rest := []) (W := fun u_35 => wX g X u_35.2.1 u_35.2.2.1 u_35.2.2.2.1 u_35.2.2.2.2.1 u_35.2.2.2.2.2 Ch PS Ly Pa OT Ea Ga Im0 Im1 u_20.2) (rf := fun u_35 => zI u_35.1) (rm := zrX_net) cx (fun _ hq => tX_net hq) d_L_tells_250 253 rfl kk_X11_net q_734 q_735 q_736 rfl e_X rfl ⟨rfl, rfl⟩ ⟨Nat.le_of_ble_eq_true rfl, Nat.le_of_ble_eq_true rfl⟩ rfl rfl (Nat.le_of_ble_eq_true rfl) ⟨Nat.zero_le _, Nat.zero_le _⟩ h (fun u_35 h => ?_)
        refine z_aload_n cx d_L_tells_253 254 rfl rfl 3 rfl ?_
        refine y_iconst cx d_L_tells_254 255 rfl ?_
        refine y_ialdx cx d_L_tells_255 256 rfl e_La_v (by decide) h (fun x_36 h => ?_)
        refine z_aload_n cx d_L_tells_256 257 rfl rfl 3 rfl ?_
        refine y_iconst cx d_L_tells_257 258 rfl ?_
        refine y_ialdx cx d_L_tells_258 259 rfl e_La_v (by decide) h (fun x_37 h => ?_)
        refine y_iadd cx d_L_tells_259 260 rfl ?_
        refine y_iconst cx d_L_tells_260 261 rfl ?_
        refine y_iadd cx d_L_tells_261 262 rfl ?_
        refine y_icmp_ne cx d_L_tells_262 265 rfl 324 (by decide) rfl rfl h (fun h => ?_) (fun h => ?_)
        · refine z_widen (k := 1) (n := 6) (Nat.le_of_ble_eq_true rfl) (Nat.le_of_ble_eq_true rfl) ?_
          refine z_sub [] rfl ?_
          exact hk_34 _ _ _ _ _ h
        · refine z_aload_n cx d_L_tells_265 266 rfl rfl 1 rfl ?_
          refine y_callV_i (As := []) (rest := []) (W := fun u_38 => wX g X u_35.2.1 u_35.2.2.1 u_35.2.2.2.1 u_35.2.2.2.2.1 u_35.2.2.2.2.2 Ch PS Ly Pa OT Ea Ga Im0 Im1 u_20.2) (rf := fun u_38 => zI u_38) (rm := zrX_fault) cx (fun _ hq => tX_fault hq) d_L_tells_266 269 rfl kk_X11_fault q_826 q_827 q_828 rfl e_X rfl ⟨rfl, rfl⟩ ⟨Nat.le_of_ble_eq_true rfl, Nat.le_of_ble_eq_true rfl⟩ rfl rfl (Nat.le_of_ble_eq_true rfl) ⟨Nat.zero_le _, Nat.zero_le _⟩ h (fun u_38 h => ?_)
          refine y_if_ne cx d_L_tells_269 272 rfl 324 (by decide) rfl h (fun h => ?_) (fun h => ?_)
          · refine z_widen (k := 1) (n := 6) (Nat.le_of_ble_eq_true rfl) (Nat.le_of_ble_eq_true rfl) ?_
            refine z_sub [] rfl ?_
            exact hk_34 _ _ _ _ _ h
          · refine z_aload_n cx d_L_tells_272 273 rfl rfl 1 rfl ?_
            refine y_iconst cx d_L_tells_273 274 rfl ?_
            refine y_callV_i (As := [.int (zI 0)]) (rest := []) (W := fun u_39 => wX g X u_35.2.1 u_35.2.2.1 u_35.2.2.2.1 u_35.2.2.2.2.1 u_35.2.2.2.2.2 Ch PS Ly Pa OT Ea Ga Im0 Im1 u_20.2) (rf := fun u_39 => zI u_39) (rm := zrX_now) cx (fun _ hq => tX_now hq) d_L_tells_274 277 rfl kk_X11_now q_834 q_835 q_836 rfl e_X rfl ⟨rfl, rfl⟩ ⟨Nat.le_of_ble_eq_true rfl, Nat.le_of_ble_eq_true rfl⟩ rfl rfl (Nat.le_of_ble_eq_true rfl) ⟨Nat.zero_le _, Nat.zero_le _⟩ h (fun u_39 h => ?_)
            refine z_aload_n cx d_L_tells_277 278 rfl rfl 3 rfl ?_
            refine y_iconst cx d_L_tells_278 279 rfl ?_
            refine y_ialdx cx d_L_tells_279 280 rfl e_La_v (by decide) h (fun x_40 h => ?_)
            refine y_icmp_ne cx d_L_tells_280 283 rfl 324 (by decide) rfl rfl h (fun h => ?_) (fun h => ?_)
            · refine z_widen (k := 1) (n := 6) (Nat.le_of_ble_eq_true rfl) (Nat.le_of_ble_eq_true rfl) ?_
              refine z_sub [] rfl ?_
              exact hk_34 _ _ _ _ _ h
            · refine z_aload_n cx d_L_tells_283 284 rfl rfl 1 rfl ?_
              refine y_iconst cx d_L_tells_284 285 rfl ?_
              refine y_callV_i (As := [.int (zI 1)]) (rest := []) (W := fun u_41 => wX g X u_35.2.1 u_35.2.2.1 u_35.2.2.2.1 u_35.2.2.2.2.1 u_35.2.2.2.2.2 Ch PS Ly Pa OT Ea Ga Im0 Im1 u_20.2) (rf := fun u_41 => zI u_41) (rm := zrX_now) cx (fun _ hq => tX_now hq) d_L_tells_285 288 rfl kk_X11_now q_834 q_835 q_836 rfl e_X rfl ⟨rfl, rfl⟩ ⟨Nat.le_of_ble_eq_true rfl, Nat.le_of_ble_eq_true rfl⟩ rfl rfl (Nat.le_of_ble_eq_true rfl) ⟨Nat.zero_le _, Nat.zero_le _⟩ h (fun u_41 h => ?_)
              refine z_aload_n cx d_L_tells_288 289 rfl rfl 3 rfl ?_
              refine y_iconst cx d_L_tells_289 290 rfl ?_
              refine y_ialdx cx d_L_tells_290 291 rfl e_La_v (by decide) h (fun x_42 h => ?_)
              refine y_icmp_ne cx d_L_tells_291 294 rfl 324 (by decide) rfl rfl h (fun h => ?_) (fun h => ?_)
              · refine z_widen (k := 1) (n := 6) (Nat.le_of_ble_eq_true rfl) (Nat.le_of_ble_eq_true rfl) ?_
                refine z_sub [] rfl ?_
                exact hk_34 _ _ _ _ _ h
              · refine z_aload_n cx d_L_tells_294 295 rfl rfl 1 rfl ?_
                refine y_iconst cx d_L_tells_295 296 rfl ?_
                refine y_callV_i (As := [.int (zI 2)]) (rest := []) (W := fun u_43 => wX g X u_35.2.1 u_35.2.2.1 u_35.2.2.2.1 u_35.2.2.2.2.1 u_35.2.2.2.2.2 Ch PS Ly Pa OT Ea Ga Im0 Im1 u_20.2) (rf := fun u_43 => zI u_43) (rm := zrX_now) cx (fun _ hq => tX_now hq) d_L_tells_296 299 rfl kk_X11_now q_834 q_835 q_836 rfl e_X rfl ⟨rfl, rfl⟩ ⟨Nat.le_of_ble_eq_true rfl, Nat.le_of_ble_eq_true rfl⟩ rfl rfl (Nat.le_of_ble_eq_true rfl) ⟨Nat.zero_le _, Nat.zero_le _⟩ h (fun u_43 h => ?_)
                refine z_aload_n cx d_L_tells_299 300 rfl rfl 3 rfl ?_
                refine y_iconst cx d_L_tells_300 301 rfl ?_
                refine y_ialdx cx d_L_tells_301 302 rfl e_La_v (by decide) h (fun x_44 h => ?_)
                refine y_icmp_ne cx d_L_tells_302 305 rfl 324 (by decide) rfl rfl h (fun h => ?_) (fun h => ?_)
                · refine z_widen (k := 1) (n := 6) (Nat.le_of_ble_eq_true rfl) (Nat.le_of_ble_eq_true rfl) ?_
                  refine z_sub [] rfl ?_
                  exact hk_34 _ _ _ _ _ h
                · refine z_aload_n cx d_L_tells_305 306 rfl rfl 1 rfl ?_
                  refine y_iconst cx d_L_tells_306 307 rfl ?_
                  refine z_aload_n cx d_L_tells_307 308 rfl rfl 3 rfl ?_
                  refine y_iconst cx d_L_tells_308 309 rfl ?_
                  refine y_ialdx cx d_L_tells_309 310 rfl e_La_v (by decide) h (fun x_45 h => ?_)
                  refine y_iconst cx d_L_tells_310 311 rfl ?_
                  refine y_callFw (As := [.ref (g.2.2 0), .int (zI 0), .int (zI x_45), .int (zI 0)]) (rest := []) (W := fun u_46 => wX g X u_35.2.1 u_35.2.2.1 u_35.2.2.2.1 u_35.2.2.2.2.1 u_35.2.2.2.2.2 Ch PS Ly Pa OT Ea Ga Im0 Im1 u_20.2) (rf := fun u_46 => zI u_46) (rm := zrL_itsT) cx hE (fun _ hq => tL_itsT hq hl9) d_L_tells_311 314 rfl qh_its q_26 qh_itsy q_607 q_608 ⟨Nat.le_of_ble_eq_true rfl, Nat.le_of_ble_eq_true rfl⟩ rfl rfl (Nat.le_of_ble_eq_true rfl) ⟨Nat.le_of_ble_eq_true rfl, Nat.le_of_ble_eq_true rfl⟩ h (fun u_46 h => ?_)
                  refine y_sipush cx d_L_tells_314 317 rfl (by decide) ?_
                  refine y_icmp_ne cx d_L_tells_317 320 rfl 324 (by decide) rfl (nm_eq (x := (-777)) (by decide) (by decide)) h (fun h => ?_) (fun h => ?_)
                  · refine z_widen (k := 1) (n := 6) (Nat.le_of_ble_eq_true rfl) (Nat.le_of_ble_eq_true rfl) ?_
                    refine z_sub [] rfl ?_
                    exact hk_34 _ _ _ _ _ h
                  · refine y_iconst cx d_L_tells_320 321 rfl ?_
                    refine z_goto cx d_L_tells_321 325 (by decide) ?_
                    refine z_widen (k := 1) (n := 6) (Nat.le_of_ble_eq_true rfl) (Nat.le_of_ble_eq_true rfl) ?_
                    refine z_sub [] rfl ?_
                    exact hk_28 _ _ _ _ _ _ h
    · refine z_aload_n cx d_L_tells_88 89 rfl rfl 3 rfl ?_
      refine z_aload_n cx d_L_tells_89 90 rfl rfl 2 rfl ?_
      refine y_iconst cx d_L_tells_90 91 rfl ?_
      refine y_ialdx cx d_L_tells_91 92 rfl e_La_v (by decide) h (fun x_47 h => ?_)
      refine y_callS_i (As := [.ref (g.2.2 93), .int (zI x_47)]) (rest := []) (W := fun u_48 => wX g X N T Rd Fr Ac Ch PS Ly Pa OT Ea Ga Im0 Im1 u_48.2) (rf := fun u_48 => zI u_48.1) (rm := zr0) cx (fun _ hq => tL_draw hq) d_L_tells_92 95 rfl kk_L_draw q_689 q_690 ⟨rfl, rfl⟩ ⟨Nat.le_of_ble_eq_true rfl, Nat.le_of_ble_eq_true rfl⟩ rfl rfl (Nat.le_of_ble_eq_true rfl) ⟨Nat.zero_le _, Nat.zero_le _⟩ h (fun u_48 h => ?_)
      refine y_istore cx d_L_tells_95 97 rfl (by decide) (lv' := [(7, .int (zI u_48.1)), (0, .ref (g.2.2 0)), (1, .ref (g.2.2 91)), (2, .ref (g.2.2 92)), (3, .ref (g.2.2 93)), (5, .int (zI v5_12)), (6, .int (zI v6_13))]) rfl ?_
      refine z_iload cx d_L_tells_97 99 rfl 0 rfl ?_
      refine y_iconst cx d_L_tells_99 100 rfl ?_
      refine y_iadd cx d_L_tells_100 101 rfl ?_
      refine z_aload_n cx d_L_tells_101 102 rfl rfl 4 rfl ?_
      refine z_aload_n cx d_L_tells_102 103 rfl rfl 3 rfl ?_
      refine y_iconst cx d_L_tells_103 104 rfl ?_
      refine y_ialdx cx d_L_tells_104 105 rfl e_La_v (by decide) h (fun x_49 h => ?_)
      refine y_iconst cx d_L_tells_105 106 rfl ?_
      refine y_isub cx d_L_tells_106 107 rfl ?_
      refine y_callS_i (As := [.ref (g.2.2 93), .int (zI (x_49 - 1))]) (rest := [.int (zI (u_48.1 + 1))]) (W := fun u_50 => wX g X N T Rd Fr Ac Ch PS Ly Pa OT Ea Ga Im0 Im1 u_50.2) (rf := fun u_50 => zI u_50.1) (rm := zr0) cx (fun _ hq => tL_draw hq) d_L_tells_107 110 rfl kk_L_draw q_689 q_690 ⟨rfl, rfl⟩ ⟨Nat.le_of_ble_eq_true rfl, Nat.le_of_ble_eq_true rfl⟩ rfl rfl (Nat.le_of_ble_eq_true rfl) ⟨Nat.zero_le _, Nat.zero_le _⟩ h (fun u_50 h => ?_)
      refine y_iadd cx d_L_tells_110 111 rfl ?_
      refine z_aload_n cx d_L_tells_111 112 rfl rfl 3 rfl ?_
      refine y_iconst cx d_L_tells_112 113 rfl ?_
      refine y_ialdx cx d_L_tells_113 114 rfl e_La_v (by decide) h (fun x_51 h => ?_)
      refine y_irem cx d_L_tells_114 115 rfl h (fun h => ?_)
      refine y_istore_b cx d_L_tells_115 117 rfl (by decide) (fun y => [(8, .int (zI y)), (7, .int (zI u_48.1)), (0, .ref (g.2.2 0)), (1, .ref (g.2.2 91)), (2, .ref (g.2.2 92)), (3, .ref (g.2.2 93)), (5, .int (zI v5_12)), (6, .int (zI v6_13))]) (fun y => rfl) h (fun v8_52 h => ?_)
      refine z_aload_n cx d_L_tells_117 118 rfl rfl 4 rfl ?_
      refine y_iconst cx d_L_tells_118 119 rfl ?_
      refine z_iload cx d_L_tells_119 121 rfl 7 rfl ?_
      refine y_iadd cx d_L_tells_121 122 rfl ?_
      refine z_iload cx d_L_tells_122 124 rfl 1 rfl ?_
      refine y_iast cx d_L_tells_124 125 rfl e_La_v (by decide) h (fun _ h9 => s_La_v h9) (fun La_53 h => ?_)
      refine z_aload_n cx d_L_tells_125 126 rfl rfl 4 rfl ?_
      refine y_bipush cx d_L_tells_126 128 rfl (by decide) ?_
      refine z_iload cx d_L_tells_128 130 rfl 7 rfl ?_
      refine y_iadd cx d_L_tells_130 131 rfl ?_
      refine z_iload cx d_L_tells_131 133 rfl 0 rfl ?_
      refine y_iast cx d_L_tells_133 134 rfl e_La_v (by decide) h (fun _ h9 => s_La_v h9) (fun La_54 h => ?_)
      refine z_aload_n cx d_L_tells_134 135 rfl rfl 4 rfl ?_
      refine y_bipush cx d_L_tells_135 137 rfl (by decide) ?_
      refine z_iload cx d_L_tells_137 139 rfl 7 rfl ?_
      refine y_iadd cx d_L_tells_139 140 rfl ?_
      refine y_iconst cx d_L_tells_140 141 rfl ?_
      refine z_aload_n cx d_L_tells_141 142 rfl rfl 5 rfl ?_
      refine y_bipush cx d_L_tells_142 144 rfl (by decide) ?_
      refine y_callS_i (As := [.ref (g.2.2 93), .int (zI 30)]) (rest := [.int (zI 1), .int (zI (56 + v6_13)), .ref (g.2.2 92)]) (W := fun u_55 => wX g X N T Rd Fr Ac Ch PS Ly Pa OT Ea Ga Im0 Im1 u_55.2) (rf := fun u_55 => zI u_55.1) (rm := zr0) cx (fun _ hq => tL_draw hq) d_L_tells_144 147 rfl kk_L_draw q_689 q_690 ⟨rfl, rfl⟩ ⟨Nat.le_of_ble_eq_true rfl, Nat.le_of_ble_eq_true rfl⟩ rfl rfl (Nat.le_of_ble_eq_true rfl) ⟨Nat.zero_le _, Nat.zero_le _⟩ h (fun u_55 h => ?_)
      refine y_iadd cx d_L_tells_147 148 rfl ?_
      refine y_iast cx d_L_tells_148 149 rfl e_La_v (by decide) h (fun _ h9 => s_La_v h9) (fun La_56 h => ?_)
      refine z_aload_n cx d_L_tells_149 150 rfl rfl 3 rfl ?_
      refine z_aload_n cx d_L_tells_150 151 rfl rfl 3 rfl ?_
      refine z_aload_n cx d_L_tells_151 152 rfl rfl 3 rfl ?_
      refine z_iload cx d_L_tells_152 154 rfl 6 rfl ?_
      refine z_ldcS cx d_L_tells_154 156 rfl (hE.1.2.2.2.2.2.2.2.2.2.1.1) ?_
      refine y_callSe (As := [.ref (g.2.2 91), .int (zI v5_12), .ref (ks.1 4)]) (rest := [.ref (g.2.2 91), .ref (g.2.2 91)]) (W := fun u_57 => wX g X N T Rd Fr Ac Ch PS Ly Pa OT Ea Ga Im0 Im1 u_57.2) (rf := fun u_57 => zI u_57.1) (rm := zrL_add) cx hE (fun _ hq => tL_add4 hq) d_L_tells_156 159 rfl kk_L_add q_694 q_695 ⟨rfl, rfl⟩ ⟨Nat.le_of_ble_eq_true rfl, Nat.le_of_ble_eq_true rfl⟩ rfl rfl (Nat.le_of_ble_eq_true rfl) ⟨Nat.zero_le _, Nat.zero_le _⟩ h (fun u_57 h => ?_)
      refine y_bipush cx d_L_tells_159 161 rfl (by decide) ?_
      refine z_iload cx d_L_tells_161 163 rfl 1 rfl ?_
      refine y_iadd cx d_L_tells_163 164 rfl ?_
      refine y_callS_i (As := [.ref (g.2.2 91), .int (zI u_57.1), .int (zI (97 + u_48.1))]) (rest := [.ref (g.2.2 91)]) (W := fun u_58 => wX g X N T Rd Fr Ac Ch PS Ly Pa OT Ea Ga Im0 Im1 u_58.2) (rf := fun u_58 => zI u_58.1) (rm := zr0) cx (fun _ hq => tL_put hq) d_L_tells_164 167 rfl kk_L_put q_699 q_700 ⟨rfl, rfl⟩ ⟨Nat.le_of_ble_eq_true rfl, Nat.le_of_ble_eq_true rfl⟩ rfl rfl (Nat.le_of_ble_eq_true rfl) ⟨Nat.zero_le _, Nat.zero_le _⟩ h (fun u_58 h => ?_)
      refine y_bipush cx d_L_tells_167 169 rfl (by decide) ?_
      refine y_callS_i (As := [.ref (g.2.2 91), .int (zI u_58.1), .int (zI 32)]) (rest := []) (W := fun u_59 => wX g X N T Rd Fr Ac Ch PS Ly Pa OT Ea Ga Im0 Im1 u_59.2) (rf := fun u_59 => zI u_59.1) (rm := zr0) cx (fun _ hq => tL_put hq) d_L_tells_169 172 rfl kk_L_put q_699 q_700 ⟨rfl, rfl⟩ ⟨Nat.le_of_ble_eq_true rfl, Nat.le_of_ble_eq_true rfl⟩ rfl rfl (Nat.le_of_ble_eq_true rfl) ⟨Nat.zero_le _, Nat.zero_le _⟩ h (fun u_59 h => ?_)
      refine y_istore cx d_L_tells_172 174 rfl (by decide) (lv' := [(5, .int (zI u_59.1)), (8, .int (zI v8_52)), (7, .int (zI u_48.1)), (0, .ref (g.2.2 0)), (1, .ref (g.2.2 91)), (2, .ref (g.2.2 92)), (3, .ref (g.2.2 93)), (6, .int (zI v6_13))]) rfl ?_
      refine z_aload_n cx d_L_tells_174 175 rfl rfl 4 rfl ?_
      refine z_aload_n cx d_L_tells_175 176 rfl rfl 4 rfl ?_
      refine z_aload_n cx d_L_tells_176 177 rfl rfl 4 rfl ?_
      refine z_aload_n cx d_L_tells_177 178 rfl rfl 4 rfl ?_
      refine z_iload cx d_L_tells_178 180 rfl 0 rfl ?_
      refine y_bipush cx d_L_tells_180 182 rfl (by decide) ?_
      refine z_iload cx d_L_tells_182 184 rfl 1 rfl ?_
      refine y_iadd cx d_L_tells_184 185 rfl ?_
      refine y_callS_i (As := [.ref (g.2.2 91), .int (zI u_59.1), .int (zI (97 + v8_52))]) (rest := [.ref (g.2.2 91), .ref (g.2.2 91), .ref (g.2.2 91)]) (W := fun u_60 => wX g X N T Rd Fr Ac Ch PS Ly Pa OT Ea Ga Im0 Im1 u_60.2) (rf := fun u_60 => zI u_60.1) (rm := zr0) cx (fun _ hq => tL_put hq) d_L_tells_185 188 rfl kk_L_put q_699 q_700 ⟨rfl, rfl⟩ ⟨Nat.le_of_ble_eq_true rfl, Nat.le_of_ble_eq_true rfl⟩ rfl rfl (Nat.le_of_ble_eq_true rfl) ⟨Nat.zero_le _, Nat.zero_le _⟩ h (fun u_60 h => ?_)
      refine y_bipush cx d_L_tells_188 190 rfl (by decide) ?_
      refine y_callS_i (As := [.ref (g.2.2 91), .int (zI u_60.1), .int (zI 32)]) (rest := [.ref (g.2.2 91), .ref (g.2.2 91)]) (W := fun u_61 => wX g X N T Rd Fr Ac Ch PS Ly Pa OT Ea Ga Im0 Im1 u_61.2) (rf := fun u_61 => zI u_61.1) (rm := zr0) cx (fun _ hq => tL_put hq) d_L_tells_190 193 rfl kk_L_put q_699 q_700 ⟨rfl, rfl⟩ ⟨Nat.le_of_ble_eq_true rfl, Nat.le_of_ble_eq_true rfl⟩ rfl rfl (Nat.le_of_ble_eq_true rfl) ⟨Nat.zero_le _, Nat.zero_le _⟩ h (fun u_61 h => ?_)
      refine z_aload_n cx d_L_tells_193 194 rfl rfl 5 rfl ?_
      refine y_bipush cx d_L_tells_194 196 rfl (by decide) ?_
      refine z_iload cx d_L_tells_196 198 rfl 7 rfl ?_
      refine y_iadd cx d_L_tells_198 199 rfl ?_
      refine y_ialdx cx d_L_tells_199 200 rfl e_La_v (by decide) h (fun x_62 h => ?_)
      refine y_callS_i (As := [.ref (g.2.2 91), .int (zI u_61.1), .int (zI x_62)]) (rest := [.ref (g.2.2 91)]) (W := fun u_63 => wX g X N T Rd Fr Ac Ch PS Ly Pa OT Ea Ga Im0 Im1 u_63.2) (rf := fun u_63 => zI u_63.1) (rm := zrL_number) cx (fun _ hq => tL_number hq) d_L_tells_200 203 rfl kk_L_number q_703 q_704 ⟨rfl, rfl⟩ ⟨Nat.le_of_ble_eq_true rfl, Nat.le_of_ble_eq_true rfl⟩ rfl rfl (Nat.le_of_ble_eq_true rfl) ⟨Nat.zero_le _, Nat.zero_le _⟩ h (fun u_63 h => ?_)
      refine y_bipush cx d_L_tells_203 205 rfl (by decide) ?_
      refine y_callS_i (As := [.ref (g.2.2 91), .int (zI u_63.1), .int (zI 59)]) (rest := []) (W := fun u_64 => wX g X N T Rd Fr Ac Ch PS Ly Pa OT Ea Ga Im0 Im1 u_64.2) (rf := fun u_64 => zI u_64.1) (rm := zr0) cx (fun _ hq => tL_put hq) d_L_tells_205 208 rfl kk_L_put q_699 q_700 ⟨rfl, rfl⟩ ⟨Nat.le_of_ble_eq_true rfl, Nat.le_of_ble_eq_true rfl⟩ rfl rfl (Nat.le_of_ble_eq_true rfl) ⟨Nat.zero_le _, Nat.zero_le _⟩ h (fun u_64 h => ?_)
      refine y_istore cx d_L_tells_208 210 rfl (by decide) (lv' := [(5, .int (zI u_64.1)), (8, .int (zI v8_52)), (7, .int (zI u_48.1)), (0, .ref (g.2.2 0)), (1, .ref (g.2.2 91)), (2, .ref (g.2.2 92)), (3, .ref (g.2.2 93)), (6, .int (zI v6_13))]) rfl ?_
      refine y_iinc cx 7 d_L_tells_210 213 rfl rfl (by decide) (lv' := [(6, .int (zI (v6_13 + 1))), (5, .int (zI u_64.1)), (8, .int (zI v8_52)), (7, .int (zI u_48.1)), (0, .ref (g.2.2 0)), (1, .ref (g.2.2 91)), (2, .ref (g.2.2 92)), (3, .ref (g.2.2 93))]) rfl ?_
      refine z_goto cx d_L_tells_213 80 (by decide) ?_
      refine z_sub [4, 5, 6, 7, 1, 0] rfl ?_
      exact hrec_15 _ _ _ h
  · refine z_aload_n cx d_L_tells_46 47 rfl rfl 1 rfl ?_
    refine z_aload_n cx d_L_tells_47 48 rfl rfl 1 rfl ?_
    refine z_aload_n cx d_L_tells_48 49 rfl rfl 1 rfl ?_
    refine z_iload cx d_L_tells_49 51 rfl 4 rfl ?_
    refine z_ldcS cx d_L_tells_51 53 rfl (hE.1.2.2.2.2.2.2.2.2.1) ?_
    refine y_callSe (As := [.ref (g.2.2 91), .int (zI v5_7), .ref (ks.1 3)]) (rest := [.ref (g.2.2 91), .ref (g.2.2 91)]) (W := fun u_65 => wX g X N T Rd Fr Ac Ch PS Ly Pa OT Ea Ga Im0 Im1 u_65.2) (rf := fun u_65 => zI u_65.1) (rm := zrL_add) cx hE (fun _ hq => tL_add3 hq) d_L_tells_53 56 rfl kk_L_add q_694 q_695 ⟨rfl, rfl⟩ ⟨Nat.le_of_ble_eq_true rfl, Nat.le_of_ble_eq_true rfl⟩ rfl rfl (Nat.le_of_ble_eq_true rfl) ⟨Nat.zero_le _, Nat.zero_le _⟩ h (fun u_65 h => ?_)
    refine y_bipush cx d_L_tells_56 58 rfl (by decide) ?_
    refine z_iload cx d_L_tells_58 60 rfl 5 rfl ?_
    refine y_iadd cx d_L_tells_60 61 rfl ?_
    refine y_callS_i (As := [.ref (g.2.2 91), .int (zI u_65.1), .int (zI (97 + v6_8))]) (rest := [.ref (g.2.2 91)]) (W := fun u_66 => wX g X N T Rd Fr Ac Ch PS Ly Pa OT Ea Ga Im0 Im1 u_66.2) (rf := fun u_66 => zI u_66.1) (rm := zr0) cx (fun _ hq => tL_put hq) d_L_tells_61 64 rfl kk_L_put q_699 q_700 ⟨rfl, rfl⟩ ⟨Nat.le_of_ble_eq_true rfl, Nat.le_of_ble_eq_true rfl⟩ rfl rfl (Nat.le_of_ble_eq_true rfl) ⟨Nat.zero_le _, Nat.zero_le _⟩ h (fun u_66 h => ?_)
    refine y_bipush cx d_L_tells_64 66 rfl (by decide) ?_
    refine y_callS_i (As := [.ref (g.2.2 91), .int (zI u_66.1), .int (zI 59)]) (rest := []) (W := fun u_67 => wX g X N T Rd Fr Ac Ch PS Ly Pa OT Ea Ga Im0 Im1 u_67.2) (rf := fun u_67 => zI u_67.1) (rm := zr0) cx (fun _ hq => tL_put hq) d_L_tells_66 69 rfl kk_L_put q_699 q_700 ⟨rfl, rfl⟩ ⟨Nat.le_of_ble_eq_true rfl, Nat.le_of_ble_eq_true rfl⟩ rfl rfl (Nat.le_of_ble_eq_true rfl) ⟨Nat.zero_le _, Nat.zero_le _⟩ h (fun u_67 h => ?_)
    refine y_istore cx d_L_tells_69 71 rfl (by decide) (lv' := [(5, .int (zI u_67.1)), (0, .ref (g.2.2 0)), (1, .ref (g.2.2 91)), (2, .ref (g.2.2 92)), (3, .ref (g.2.2 93)), (6, .int (zI v6_8))]) rfl ?_
    refine y_iinc cx 5 d_L_tells_71 74 rfl rfl (by decide) (lv' := [(6, .int (zI (v6_8 + 1))), (5, .int (zI u_67.1)), (0, .ref (g.2.2 0)), (1, .ref (g.2.2 91)), (2, .ref (g.2.2 92)), (3, .ref (g.2.2 93))]) rfl ?_
    refine z_goto cx d_L_tells_74 38 (by decide) ?_
    refine z_sub [2, 3, 4, 5, 1, 0] rfl ?_
    exact hrec_10 _ _ _ h
