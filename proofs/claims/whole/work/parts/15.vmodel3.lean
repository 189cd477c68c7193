-- needs: 06.world 07.fun 08.links5 09.dec1 09.dec2 09.dec3 09.dec4 15.vmodel1 15.vmodel2
def zrM_ease : Room := { frames := 2, cells := 0, slots := 0, locals := 45 }
set_option maxHeartbeats 4000000 in
theorem tM_ease {l : Launch} {g : ZG} {M : ZB}  {r : Int × ZB} (h : fM_ease M = some r) : zMi l yX12_ease cX12_ease 6 (some .int) zrM_ease g [.ref (g.2.2 0)] (wM g M) (wM g r.2) (zI r.1) := by
  unfold fM_ease at h
  refine zMi_q (own := RX12) rfl (by decide +kernel) (Nat.le_of_ble_eq_true rfl) (lv := [(0, .ref (g.2.2 0))]) rfl ⟨rfl, rfl⟩ ?_
  intro p e s m args below meth c A Q hQ cx
  refine z_aload_n cx d_X12_ease_0 1 rfl rfl 0 rfl ?_
  refine y_iconst cx d_X12_ease_1 2 rfl ?_
  refine y_put cx d_X12_ease_2 5 rfl e_M rfl zX12 tyX12_ok nmX12 0 (by decide) q_1361 rfl rfl rfl rfl (Nat.le_of_ble_eq_true rfl) h (fun _ h9 => s_M_0 h9) (fun M_1 h => ?_)
  refine z_aload_n cx d_X12_ease_5 6 rfl rfl 0 rfl ?_
  refine y_callV_i (As := []) (rest := []) (W := fun u_2 => wM g M_1) (rf := fun u_2 => zI u_2) (rm := zr0) cx (fun _ hq => tM_points hq) d_X12_ease_6 9 rfl kk_X12_points q_1641 q_1643 q_73 rfl e_M rfl ⟨rfl, rfl⟩ ⟨Nat.le_of_ble_eq_true rfl, Nat.le_of_ble_eq_true rfl⟩ rfl rfl (Nat.le_of_ble_eq_true rfl) ⟨Nat.zero_le _, Nat.zero_le _⟩ h (fun u_2 h => ?_)
  refine y_if_ne cx d_X12_ease_9 12 rfl 14 (by decide) rfl h (fun h => ?_) (fun h => ?_)
  · refine y_iconst cx d_X12_ease_14 15 rfl ?_
    refine y_istore_n cx d_X12_ease_15 16 rfl rfl (by decide) (lv' := [(1, .int (zI 0)), (0, .ref (g.2.2 0))]) rfl ?_
    refine y_iconst cx d_X12_ease_16 17 rfl ?_
    refine y_istore_n cx d_X12_ease_17 18 rfl rfl (by decide) (lv' := [(2, .int (zI 1)), (1, .int (zI 0)), (0, .ref (g.2.2 0))]) rfl ?_
    refine z_sub [2, 1, 0] rfl ?_
    refine lop2_f (P := fun (v1_3 : Int) (v2_4 : Int) => V p l e zrM_ease s m args below meth c A s.heap g 6 Q (wM g M_1) 0 0 [(0, .ref (g.2.2 0)), (1, .int (zI v1_3)), (2, .int (zI v2_4))] 18 []) (fun rec_5 hrec_5 v1_3 v2_4 h => ?_) _ _ _ h
    refine z_iload_n cx d_X12_ease_18 19 rfl rfl 2 rfl ?_
    refine z_aload_n cx d_X12_ease_19 20 rfl rfl 0 rfl ?_
    refine y_callV_i (As := []) (rest := [.int (zI v2_4)]) (W := fun u_6 => wM g M_1) (rf := fun u_6 => zI u_6) (rm := zr0) cx (fun _ hq => tM_points hq) d_X12_ease_20 23 rfl kk_X12_points q_1641 q_1643 q_73 rfl e_M rfl ⟨rfl, rfl⟩ ⟨Nat.le_of_ble_eq_true rfl, Nat.le_of_ble_eq_true rfl⟩ rfl rfl (Nat.le_of_ble_eq_true rfl) ⟨Nat.zero_le _, Nat.zero_le _⟩ h (fun u_6 h => ?_)
    refine y_icmp_ge cx d_X12_ease_23 26 rfl 47 (by decide) rfl rfl h (fun h => ?_) (fun h => ?_)
    · refine y_iconst cx d_X12_ease_47 48 rfl ?_
      refine y_istore_n cx d_X12_ease_48 49 rfl rfl (by decide) (lv' := [(2, .int (zI 0)), (0, .ref (g.2.2 0)), (1, .int (zI v1_3))]) rfl ?_
      refine z_sub [1, 2, 0] rfl ?_
      refine lop2_f (P := fun (v2_7 : Int) (M_8 : ZB) => V p l e zrM_ease s m args below meth c A s.heap g 6 Q (wM g M_8) 0 0 [(0, .ref (g.2.2 0)), (1, .int (zI v1_3)), (2, .int (zI v2_7))] 49 []) (fun rec_9 hrec_9 v2_7 M_8 h => ?_) _ _ _ h
      refine z_iload_n cx d_X12_ease_49 50 rfl rfl 2 rfl ?_
      refine z_aload_n cx d_X12_ease_50 51 rfl rfl 0 rfl ?_
      refine y_callV_i (As := []) (rest := [.int (zI v2_7)]) (W := fun u_10 => wM g M_8) (rf := fun u_10 => zI u_10) (rm := zr0) cx (fun _ hq => tM_points hq) d_X12_ease_51 54 rfl kk_X12_points q_1641 q_1643 q_73 rfl e_M rfl ⟨rfl, rfl⟩ ⟨Nat.le_of_ble_eq_true rfl, Nat.le_of_ble_eq_true rfl⟩ rfl rfl (Nat.le_of_ble_eq_true rfl) ⟨Nat.zero_le _, Nat.zero_le _⟩ h (fun u_10 h => ?_)
      refine y_icmp_ge cx d_X12_ease_54 57 rfl 91 (by decide) rfl rfl h (fun h => ?_) (fun h => ?_)
      · refine y_iconst cx d_X12_ease_91 92 rfl ?_
        refine y_istore_n cx d_X12_ease_92 93 rfl rfl (by decide) (lv' := [(2, .int (zI 0)), (0, .ref (g.2.2 0)), (1, .int (zI v1_3))]) rfl ?_
        refine z_sub [1, 2, 0] rfl ?_
        refine lop2_f (P := fun (v2_11 : Int) (M_12 : ZB) => V p l e zrM_ease s m args below meth c A s.heap g 6 Q (wM g M_12) 0 0 [(0, .ref (g.2.2 0)), (1, .int (zI v1_3)), (2, .int (zI v2_11))] 93 []) (fun rec_13 hrec_13 v2_11 M_12 h => ?_) _ _ _ h
        refine z_iload_n cx d_X12_ease_93 94 rfl rfl 2 rfl ?_
        refine z_aload_n cx d_X12_ease_94 95 rfl rfl 0 rfl ?_
        refine y_callV_i (As := []) (rest := [.int (zI v2_11)]) (W := fun u_14 => wM g M_12) (rf := fun u_14 => zI u_14) (rm := zr0) cx (fun _ hq => tM_points hq) d_X12_ease_95 98 rfl kk_X12_points q_1641 q_1643 q_73 rfl e_M rfl ⟨rfl, rfl⟩ ⟨Nat.le_of_ble_eq_true rfl, Nat.le_of_ble_eq_true rfl⟩ rfl rfl (Nat.le_of_ble_eq_true rfl) ⟨Nat.zero_le _, Nat.zero_le _⟩ h (fun u_14 h => ?_)
        refine y_icmp_ge cx d_X12_ease_98 101 rfl 178 (by decide) rfl rfl h (fun h => ?_) (fun h => ?_)
        · refine z_aload_n cx d_X12_ease_178 179 rfl rfl 0 rfl ?_
          refine z_get cx d_X12_ease_179 182 rfl e_M rfl zX12 30 (by decide) q_1391 rfl rfl ?_
          refine z_iload_n cx d_X12_ease_182 183 rfl rfl 1 rfl ?_
          refine y_ialdx cx d_X12_ease_183 184 rfl e_M_off (by decide) h (fun x_15 h => ?_)
          refine y_sipush cx d_X12_ease_184 187 rfl (by decide) ?_
          refine y_icmp_lt cx d_X12_ease_187 190 rfl 192 (by decide) rfl (nm_eq (x := 1000) (by decide) (by decide)) h (fun h => ?_) (fun h => ?_)
          · refine z_aload_n cx d_X12_ease_192 193 rfl rfl 0 rfl ?_
            refine y_callV_v (As := []) (rest := []) (W := fun u_16 => wM g u_16) (rm := zrM_snap) cx (fun _ hq => tM_snap hq) d_X12_ease_193 196 rfl kk_X12_snap q_1578 q_1580 q_62 rfl e_M rfl ⟨rfl, rfl⟩ ⟨Nat.le_of_ble_eq_true rfl, Nat.le_of_ble_eq_true rfl⟩ rfl rfl (Nat.le_of_ble_eq_true rfl) ⟨Nat.zero_le _, Nat.zero_le _⟩ h (fun u_16 h => ?_)
            refine z_aload_n cx d_X12_ease_196 197 rfl rfl 0 rfl ?_
            refine z_get cx d_X12_ease_197 200 rfl e_M rfl zX12 30 (by decide) q_1391 rfl rfl ?_
            refine z_iload_n cx d_X12_ease_200 201 rfl rfl 1 rfl ?_
            refine y_ialdx cx d_X12_ease_201 202 rfl e_M_off (by decide) h (fun x_17 h => ?_)
            refine y_istore_n cx d_X12_ease_202 203 rfl rfl (by decide) (lv' := [(2, .int (zI x_17)), (0, .ref (g.2.2 0)), (1, .int (zI v1_3))]) rfl ?_
            refine z_iload_n cx d_X12_ease_203 204 rfl rfl 2 rfl ?_
            refine y_istore_n cx d_X12_ease_204 205 rfl rfl (by decide) (lv' := [(3, .int (zI v1_3)), (2, .int (zI x_17)), (0, .ref (g.2.2 0)), (1, .int (zI v1_3))]) rfl ?_
            refine z_iload_n cx d_X12_ease_205 206 rfl rfl 1 rfl ?_
            refine y_istore cx d_X12_ease_206 208 rfl (by decide) (lv' := [(4, .int (zI x_17)), (3, .int (zI v1_3)), (2, .int (zI x_17)), (0, .ref (g.2.2 0)), (1, .int (zI v1_3))]) rfl ?_
            refine z_sub [3, 2, 1, 0] rfl ?_
            refine lop3_f (P := fun (v3_18 : Int) (v4_19 : Int) (M_20 : ZB) => V p l e zrM_ease s m args below meth c A s.heap g 6 Q (wM g M_20) 0 0 [(0, .ref (g.2.2 0)), (2, .int (zI x_17)), (3, .int (zI v3_18)), (4, .int (zI v4_19))] 208 []) (fun rec_21 hrec_21 v3_18 v4_19 M_20 h => ?_) _ _ _ _ h
            refine z_iload cx d_X12_ease_208 210 rfl 3 rfl ?_
            refine y_if_le cx d_X12_ease_210 213 rfl 294 (by decide) rfl h (fun h => ?_) (fun h => ?_)
            · refine z_iload_n cx d_X12_ease_294 295 rfl rfl 1 rfl ?_
              subst hQ
              obtain rfl := Option.some.inj h
              exact z_iret cx d_X12_ease_295 rfl rfl
            · refine y_iconst cx d_X12_ease_213 214 rfl ?_
              refine y_istore cx d_X12_ease_214 216 rfl (by decide) (lv' := [(5, .int (zI 0)), (0, .ref (g.2.2 0)), (2, .int (zI x_17)), (3, .int (zI v3_18)), (4, .int (zI v4_19))]) rfl ?_
              refine z_sub [1, 2, 3, 4, 0] rfl ?_
              refine lop1_f (P := fun (v5_22 : Int) => V p l e zrM_ease s m args below meth c A s.heap g 6 Q (wM g M_20) 0 0 [(0, .ref (g.2.2 0)), (2, .int (zI x_17)), (3, .int (zI v3_18)), (4, .int (zI v4_19)), (5, .int (zI v5_22))] 216 []) (fun rec_23 hrec_23 v5_22 h => ?_) _ _ h
              refine z_aload_n cx d_X12_ease_216 217 rfl rfl 0 rfl ?_
              refine z_iload cx d_X12_ease_217 219 rfl 4 rfl ?_
              refine y_callV_i (As := [.int (zI v5_22)]) (rest := []) (W := fun u_24 => wM g M_20) (rf := fun u_24 => zI u_24) (rm := zr0) cx (fun _ hq => tM_isBroken hq) d_X12_ease_219 222 rfl kk_X12_isBroken q_1610 q_1612 q_68 rfl e_M rfl ⟨rfl, rfl⟩ ⟨Nat.le_of_ble_eq_true rfl, Nat.le_of_ble_eq_true rfl⟩ rfl rfl (Nat.le_of_ble_eq_true rfl) ⟨Nat.zero_le _, Nat.zero_le _⟩ h (fun u_24 h => ?_)
              refine kf0_f (P := V p l e zrM_ease s m args below meth c A s.heap g 6 Q (wM g M_20) 0 0 [(0, .ref (g.2.2 0)), (2, .int (zI x_17)), (3, .int (zI v3_18)), (4, .int (zI v4_19)), (5, .int (zI v5_22))] 253 []) h (fun h => ?_) (fun k_25 hk_25 h => ?_)
              · refine y_iinc cx 4 d_X12_ease_253 256 rfl rfl (by decide) (lv' := [(5, .int (zI (v5_22 + 1))), (0, .ref (g.2.2 0)), (2, .int (zI x_17)), (3, .int (zI v3_18)), (4, .int (zI v4_19))]) rfl ?_
                refine z_goto cx d_X12_ease_256 216 (by decide) ?_
                refine z_sub [1, 2, 3, 4, 0] rfl ?_
                exact hrec_23 _ h
              refine y_if_ne cx d_X12_ease_222 225 rfl 253 (by decide) rfl h (fun h => ?_) (fun h => ?_)
              · exact hk_25  h
              · refine z_aload_n cx d_X12_ease_225 226 rfl rfl 0 rfl ?_
                refine z_iload cx d_X12_ease_226 228 rfl 4 rfl ?_
                refine y_callV_i (As := [.int (zI v5_22)]) (rest := []) (W := fun u_26 => wM g M_20) (rf := fun u_26 => zI u_26) (rm := zr0) cx (fun _ hq => tM_outOf hq) d_X12_ease_228 231 rfl kk_X12_outOf q_1764 q_1766 q_91 rfl e_M rfl ⟨rfl, rfl⟩ ⟨Nat.le_of_ble_eq_true rfl, Nat.le_of_ble_eq_true rfl⟩ rfl rfl (Nat.le_of_ble_eq_true rfl) ⟨Nat.zero_le _, Nat.zero_le _⟩ h (fun u_26 h => ?_)
                refine z_iload_n cx d_X12_ease_231 232 rfl rfl 2 rfl ?_
                refine y_icmp_ne cx d_X12_ease_232 235 rfl 253 (by decide) rfl rfl h (fun h => ?_) (fun h => ?_)
                · exact hk_25  h
                · refine z_aload_n cx d_X12_ease_235 236 rfl rfl 0 rfl ?_
                  refine z_get cx d_X12_ease_236 239 rfl e_M rfl zX12 30 (by decide) q_1391 rfl rfl ?_
                  refine z_aload_n cx d_X12_ease_239 240 rfl rfl 0 rfl ?_
                  refine z_iload cx d_X12_ease_240 242 rfl 4 rfl ?_
                  refine y_callV_i (As := [.int (zI v5_22)]) (rest := [.ref (g.2.2 15)]) (W := fun u_27 => wM g M_20) (rf := fun u_27 => zI u_27) (rm := zr0) cx (fun _ hq => tM_towards hq) d_X12_ease_242 245 rfl kk_X12_towards q_1784 q_1786 q_94 rfl e_M rfl ⟨rfl, rfl⟩ ⟨Nat.le_of_ble_eq_true rfl, Nat.le_of_ble_eq_true rfl⟩ rfl rfl (Nat.le_of_ble_eq_true rfl) ⟨Nat.zero_le _, Nat.zero_le _⟩ h (fun u_27 h => ?_)
                  refine y_ialdx cx d_X12_ease_245 246 rfl e_M_off (by decide) h (fun x_28 h => ?_)
                  refine z_iload cx d_X12_ease_246 248 rfl 3 rfl ?_
                  refine y_iconst cx d_X12_ease_248 249 rfl ?_
                  refine y_isub cx d_X12_ease_249 250 rfl ?_
                  refine y_icmp_eq cx d_X12_ease_250 253 rfl 259 (by decide) rfl rfl h (fun h => ?_) (fun h => ?_)
                  · refine z_aload_n cx d_X12_ease_259 260 rfl rfl 0 rfl ?_
                    refine z_iload cx d_X12_ease_260 262 rfl 4 rfl ?_
                    refine y_callV_i (As := [.int (zI v5_22)]) (rest := []) (W := fun u_29 => wM g M_20) (rf := fun u_29 => zI u_29) (rm := zr0) cx (fun _ hq => tM_towards hq) d_X12_ease_262 265 rfl kk_X12_towards q_1784 q_1786 q_94 rfl e_M rfl ⟨rfl, rfl⟩ ⟨Nat.le_of_ble_eq_true rfl, Nat.le_of_ble_eq_true rfl⟩ rfl rfl (Nat.le_of_ble_eq_true rfl) ⟨Nat.zero_le _, Nat.zero_le _⟩ h (fun u_29 h => ?_)
                    refine y_istore_n cx d_X12_ease_265 266 rfl rfl (by decide) (lv' := [(3, .int (zI u_29)), (0, .ref (g.2.2 0)), (2, .int (zI x_17)), (4, .int (zI v4_19)), (5, .int (zI v5_22))]) rfl ?_
                    refine z_aload_n cx d_X12_ease_266 267 rfl rfl 1 rfl ?_
                    refine z_get cx d_X12_ease_267 270 rfl e_M rfl zX12 12 (by decide) q_1373 rfl rfl ?_
                    refine y_bipush cx d_X12_ease_270 272 rfl (by decide) ?_
                    refine z_iload cx d_X12_ease_272 274 rfl 4 rfl ?_
                    refine y_iadd cx d_X12_ease_274 275 rfl ?_
                    refine y_iconst cx d_X12_ease_275 276 rfl ?_
                    refine z_aload_n cx d_X12_ease_276 277 rfl rfl 1 rfl ?_
                    refine z_get cx d_X12_ease_277 280 rfl e_M rfl zX12 12 (by decide) q_1373 rfl rfl ?_
                    refine y_bipush cx d_X12_ease_280 282 rfl (by decide) ?_
                    refine z_iload cx d_X12_ease_282 284 rfl 4 rfl ?_
                    refine y_iadd cx d_X12_ease_284 285 rfl ?_
                    refine y_ialdx cx d_X12_ease_285 286 rfl e_M_now (by decide) h (fun x_30 h => ?_)
                    refine y_isub cx d_X12_ease_286 287 rfl ?_
                    refine y_iast cx d_X12_ease_287 288 rfl e_M_now (by decide) h (fun _ h9 => s_M_now h9) (fun M_31 h => ?_)
                    refine y_iinc cx 3 d_X12_ease_288 291 rfl rfl (by decide) (lv' := [(4, .int (zI (v4_19 + (-1)))), (3, .int (zI u_29)), (0, .ref (g.2.2 0)), (2, .int (zI x_17)), (5, .int (zI v5_22))]) rfl ?_
                    refine z_goto cx d_X12_ease_291 208 (by decide) ?_
                    refine z_sub [2, 3, 1, 0] rfl ?_
                    exact hrec_21 _ _ _ h
                  · exact hk_25  h
          · refine y_iconst cx d_X12_ease_190 191 rfl ?_
            subst hQ
            obtain rfl := Option.some.inj h
            exact z_iret cx d_X12_ease_191 rfl rfl
        · refine y_iconst cx d_X12_ease_101 102 rfl ?_
          refine y_istore_n cx d_X12_ease_102 103 rfl rfl (by decide) (lv' := [(3, .int (zI 0)), (0, .ref (g.2.2 0)), (1, .int (zI v1_3)), (2, .int (zI v2_11))]) rfl ?_
          refine z_sub [1, 2, 3, 0] rfl ?_
          refine lop2_f (P := fun (v3_32 : Int) (M_33 : ZB) => V p l e zrM_ease s m args below meth c A s.heap g 6 Q (wM g M_33) 0 0 [(0, .ref (g.2.2 0)), (1, .int (zI v1_3)), (2, .int (zI v2_11)), (3, .int (zI v3_32))] 103 []) (fun rec_34 hrec_34 v3_32 M_33 h => ?_) _ _ _ h
          refine z_iload_n cx d_X12_ease_103 104 rfl rfl 3 rfl ?_
          refine z_aload_n cx d_X12_ease_104 105 rfl rfl 0 rfl ?_
          refine y_callV_i (As := []) (rest := [.int (zI v3_32)]) (W := fun u_35 => wM g M_33) (rf := fun u_35 => zI u_35) (rm := zr0) cx (fun _ hq => tM_lines hq) d_X12_ease_105 108 rfl kk_X12_lines q_1582 q_1584 q_63 rfl e_M rfl ⟨rfl, rfl⟩ ⟨Nat.le_of_ble_eq_true rfl, Nat.le_of_ble_eq_true rfl⟩ rfl rfl (Nat.le_of_ble_eq_true rfl) ⟨Nat.zero_le _, Nat.zero_le _⟩ h (fun u_35 h => ?_)
          refine y_icmp_ge cx d_X12_ease_108 111 rfl 172 (by decide) rfl rfl h (fun h => ?_) (fun h => ?_)
          · refine y_iinc cx 2 d_X12_ease_172 175 rfl rfl (by decide) (lv' := [(2, .int (zI (v2_11 + 1))), (0, .ref (g.2.2 0)), (1, .int (zI v1_3)), (3, .int (zI v3_32))]) rfl ?_
            refine z_goto cx d_X12_ease_175 93 (by decide) ?_
            refine z_sub [1, 2, 0] rfl ?_
            exact hrec_13 _ _ h
          · refine z_aload_n cx d_X12_ease_111 112 rfl rfl 0 rfl ?_
            refine z_iload_n cx d_X12_ease_112 113 rfl rfl 3 rfl ?_
            refine y_callV_i (As := [.int (zI v3_32)]) (rest := []) (W := fun u_36 => wM g M_33) (rf := fun u_36 => zI u_36) (rm := zr0) cx (fun _ hq => tM_isBroken hq) d_X12_ease_113 116 rfl kk_X12_isBroken q_1610 q_1612 q_68 rfl e_M rfl ⟨rfl, rfl⟩ ⟨Nat.le_of_ble_eq_true rfl, Nat.le_of_ble_eq_true rfl⟩ rfl rfl (Nat.le_of_ble_eq_true rfl) ⟨Nat.zero_le _, Nat.zero_le _⟩ h (fun u_36 h => ?_)
            refine kf1_f (P := fun (M_37 : ZB) => V p l e zrM_ease s m args below meth c A s.heap g 6 Q (wM g M_37) 0 0 [(0, .ref (g.2.2 0)), (1, .int (zI v1_3)), (2, .int (zI v2_11)), (3, .int (zI v3_32))] 166 []) h (fun M_37 h => ?_) (fun k_38 hk_38 h => ?_)
            · refine y_iinc cx 3 d_X12_ease_166 169 rfl rfl (by decide) (lv' := [(3, .int (zI (v3_32 + 1))), (0, .ref (g.2.2 0)), (1, .int (zI v1_3)), (2, .int (zI v2_11))]) rfl ?_
              refine z_goto cx d_X12_ease_169 103 (by decide) ?_
              refine z_sub [1, 2, 3, 0] rfl ?_
              exact hrec_34 _ _ h
            refine y_if_ne cx d_X12_ease_116 119 rfl 166 (by decide) rfl h (fun h => ?_) (fun h => ?_)
            · exact hk_38 _ h
            · refine z_aload_n cx d_X12_ease_119 120 rfl rfl 0 rfl ?_
              refine z_get cx d_X12_ease_120 123 rfl e_M rfl zX12 30 (by decide) q_1391 rfl rfl ?_
              refine z_aload_n cx d_X12_ease_123 124 rfl rfl 0 rfl ?_
              refine z_iload_n cx d_X12_ease_124 125 rfl rfl 3 rfl ?_
              refine y_callV_i (As := [.int (zI v3_32)]) (rest := [.ref (g.2.2 15)]) (W := fun u_39 => wM g M_33) (rf := fun u_39 => zI u_39) (rm := zr0) cx (fun _ hq => tM_towards hq) d_X12_ease_125 128 rfl kk_X12_towards q_1784 q_1786 q_94 rfl e_M rfl ⟨rfl, rfl⟩ ⟨Nat.le_of_ble_eq_true rfl, Nat.le_of_ble_eq_true rfl⟩ rfl rfl (Nat.le_of_ble_eq_true rfl) ⟨Nat.zero_le _, Nat.zero_le _⟩ h (fun u_39 h => ?_)
              refine y_ialdx cx d_X12_ease_128 129 rfl e_M_off (by decide) h (fun x_40 h => ?_)
              refine y_iconst cx d_X12_ease_129 130 rfl ?_
              refine y_iadd cx d_X12_ease_130 131 rfl ?_
              refine z_aload_n cx d_X12_ease_131 132 rfl rfl 0 rfl ?_
              refine z_get cx d_X12_ease_132 135 rfl e_M rfl zX12 30 (by decide) q_1391 rfl rfl ?_
              refine z_aload_n cx d_X12_ease_135 136 rfl rfl 0 rfl ?_
              refine z_iload_n cx d_X12_ease_136 137 rfl rfl 3 rfl ?_
              refine y_callV_i (As := [.int (zI v3_32)]) (rest := [.ref (g.2.2 15), .int (zI (x_40 + 1))]) (W := fun u_41 => wM g M_33) (rf := fun u_41 => zI u_41) (rm := zr0) cx (fun _ hq => tM_outOf hq) d_X12_ease_137 140 rfl kk_X12_outOf q_1764 q_1766 q_91 rfl e_M rfl ⟨rfl, rfl⟩ ⟨Nat.le_of_ble_eq_true rfl, Nat.le_of_ble_eq_true rfl⟩ rfl rfl (Nat.le_of_ble_eq_true rfl) ⟨Nat.zero_le _, Nat.zero_le _⟩ h (fun u_41 h => ?_)
              refine y_ialdx cx d_X12_ease_140 141 rfl e_M_off (by decide) h (fun x_42 h => ?_)
              refine y_icmp_ge cx d_X12_ease_141 144 rfl 166 (by decide) rfl rfl h (fun h => ?_) (fun h => ?_)
              · exact hk_38 _ h
              · refine z_aload_n cx d_X12_ease_144 145 rfl rfl 0 rfl ?_
                refine z_get cx d_X12_ease_145 148 rfl e_M rfl zX12 30 (by decide) q_1391 rfl rfl ?_
                refine z_aload_n cx d_X12_ease_148 149 rfl rfl 0 rfl ?_
                refine z_iload_n cx d_X12_ease_149 150 rfl rfl 3 rfl ?_
                refine y_callV_i (As := [.int (zI v3_32)]) (rest := [.ref (g.2.2 15)]) (W := fun u_43 => wM g M_33) (rf := fun u_43 => zI u_43) (rm := zr0) cx (fun _ hq => tM_outOf hq) d_X12_ease_150 153 rfl kk_X12_outOf q_1764 q_1766 q_91 rfl e_M rfl ⟨rfl, rfl⟩ ⟨Nat.le_of_ble_eq_true rfl, Nat.le_of_ble_eq_true rfl⟩ rfl rfl (Nat.le_of_ble_eq_true rfl) ⟨Nat.zero_le _, Nat.zero_le _⟩ h (fun u_43 h => ?_)
                refine z_aload_n cx d_X12_ease_153 154 rfl rfl 0 rfl ?_
                refine z_get cx d_X12_ease_154 157 rfl e_M rfl zX12 30 (by decide) q_1391 rfl rfl ?_
                refine z_aload_n cx d_X12_ease_157 158 rfl rfl 0 rfl ?_
                refine z_iload_n cx d_X12_ease_158 159 rfl rfl 3 rfl ?_
                refine y_callV_i (As := [.int (zI v3_32)]) (rest := [.ref (g.2.2 15), .int (zI u_43), .ref (g.2.2 15)]) (W := fun u_44 => wM g M_33) (rf := fun u_44 => zI u_44) (rm := zr0) cx (fun _ hq => tM_towards hq) d_X12_ease_159 162 rfl kk_X12_towards q_1784 q_1786 q_94 rfl e_M rfl ⟨rfl, rfl⟩ ⟨Nat.le_of_ble_eq_true rfl, Nat.le_of_ble_eq_true rfl⟩ rfl rfl (Nat.le_of_ble_eq_true rfl) ⟨Nat.zero_le _, Nat.zero_le _⟩ h (fun u_44 h => ?_)
                refine y_ialdx cx d_X12_ease_162 163 rfl e_M_off (by decide) h (fun x_45 h => ?_)
                refine y_iconst cx d_X12_ease_163 164 rfl ?_
                refine y_iadd cx d_X12_ease_164 165 rfl ?_
                refine y_iast cx d_X12_ease_165 166 rfl e_M_off (by decide) h (fun _ h9 => s_M_off h9) (fun M_46 h => ?_)
                exact hk_38 _ h
      · refine z_aload_n cx d_X12_ease_57 58 rfl rfl 0 rfl ?_
        refine z_get cx d_X12_ease_58 61 rfl e_M rfl zX12 30 (by decide) q_1391 rfl rfl ?_
        refine z_iload_n cx d_X12_ease_61 62 rfl rfl 2 rfl ?_
        refine z_aload_n cx d_X12_ease_62 63 rfl rfl 0 rfl ?_
        refine z_iload_n cx d_X12_ease_63 64 rfl rfl 2 rfl ?_
        refine y_callV_i (As := [.int (zI v2_7)]) (rest := [.int (zI v2_7), .ref (g.2.2 15)]) (W := fun u_47 => wM g M_8) (rf := fun u_47 => zI u_47) (rm := zrM_loadOf) cx (fun _ hq => tM_loadOf hq) d_X12_ease_64 67 rfl kk_X12_loadOf q_1776 q_1778 q_93 rfl e_M rfl ⟨rfl, rfl⟩ ⟨Nat.le_of_ble_eq_true rfl, Nat.le_of_ble_eq_true rfl⟩ rfl rfl (Nat.le_of_ble_eq_true rfl) ⟨Nat.zero_le _, Nat.zero_le _⟩ h (fun u_47 h => ?_)
        refine z_aload_n cx d_X12_ease_67 68 rfl rfl 0 rfl ?_
        refine z_iload_n cx d_X12_ease_68 69 rfl rfl 1 rfl ?_
        refine y_callV_i (As := [.int (zI v1_3)]) (rest := [.int (zI u_47), .int (zI v2_7), .ref (g.2.2 15)]) (W := fun u_48 => wM g M_8) (rf := fun u_48 => zI u_48) (rm := zrM_loadOf) cx (fun _ hq => tM_loadOf hq) d_X12_ease_69 72 rfl kk_X12_loadOf q_1776 q_1778 q_93 rfl e_M rfl ⟨rfl, rfl⟩ ⟨Nat.le_of_ble_eq_true rfl, Nat.le_of_ble_eq_true rfl⟩ rfl rfl (Nat.le_of_ble_eq_true rfl) ⟨Nat.zero_le _, Nat.zero_le _⟩ h (fun u_48 h => ?_)
        refine y_iconst cx d_X12_ease_72 73 rfl ?_
        refine y_isub cx d_X12_ease_73 74 rfl ?_
        refine kf1_f (P := fun (w2_49 : Int) => V p l e zrM_ease s m args below meth c A s.heap g 6 Q (wM g M_8) 0 0 [(0, .ref (g.2.2 0)), (1, .int (zI v1_3)), (2, .int (zI v2_7))] 84 [.int (zI w2_49), .int (zI v2_7), .ref (g.2.2 15)]) h (fun w2_49 h => ?_) (fun k_50 hk_50 h => ?_)
        · refine y_iast cx d_X12_ease_84 85 rfl e_M_off (by decide) h (fun _ h9 => s_M_off h9) (fun M_51 h => ?_)
          refine y_iinc cx 2 d_X12_ease_85 88 rfl rfl (by decide) (lv' := [(2, .int (zI (v2_7 + 1))), (0, .ref (g.2.2 0)), (1, .int (zI v1_3))]) rfl ?_
          refine z_goto cx d_X12_ease_88 49 (by decide) ?_
          refine z_sub [1, 2, 0] rfl ?_
          exact hrec_9 _ _ h
        refine y_icmp_gt cx d_X12_ease_74 77 rfl 81 (by decide) rfl rfl h (fun h => ?_) (fun h => ?_)
        · refine y_sipush cx d_X12_ease_81 84 rfl (by decide) ?_
          exact hk_50 _ h
        · refine y_iconst cx d_X12_ease_77 78 rfl ?_
          refine z_goto cx d_X12_ease_78 84 (by decide) ?_
          exact hk_50 _ h
    · refine z_aload_n cx d_X12_ease_26 27 rfl rfl 0 rfl ?_
      refine z_iload_n cx d_X12_ease_27 28 rfl rfl 2 rfl ?_
      refine y_callV_i (As := [.int (zI v2_4)]) (rest := []) (W := fun u_52 => wM g M_1) (rf := fun u_52 => zI u_52) (rm := zrM_loadOf) cx (fun _ hq => tM_loadOf hq) d_X12_ease_28 31 rfl kk_X12_loadOf q_1776 q_1778 q_93 rfl e_M rfl ⟨rfl, rfl⟩ ⟨Nat.le_of_ble_eq_true rfl, Nat.le_of_ble_eq_true rfl⟩ rfl rfl (Nat.le_of_ble_eq_true rfl) ⟨Nat.zero_le _, Nat.zero_le _⟩ h (fun u_52 h => ?_)
      refine z_aload_n cx d_X12_ease_31 32 rfl rfl 0 rfl ?_
      refine z_iload_n cx d_X12_ease_32 33 rfl rfl 1 rfl ?_
      refine y_callV_i (As := [.int (zI v1_3)]) (rest := [.int (zI u_52)]) (W := fun u_53 => wM g M_1) (rf := fun u_53 => zI u_53) (rm := zrM_loadOf) cx (fun _ hq => tM_loadOf hq) d_X12_ease_33 36 rfl kk_X12_loadOf q_1776 q_1778 q_93 rfl e_M rfl ⟨rfl, rfl⟩ ⟨Nat.le_of_ble_eq_true rfl, Nat.le_of_ble_eq_true rfl⟩ rfl rfl (Nat.le_of_ble_eq_true rfl) ⟨Nat.zero_le _, Nat.zero_le _⟩ h (fun u_53 h => ?_)
      refine kf1_f (P := fun (v1_54 : Int) => V p l e zrM_ease s m args below meth c A s.heap g 6 Q (wM g M_1) 0 0 [(0, .ref (g.2.2 0)), (1, .int (zI v1_54)), (2, .int (zI v2_4))] 41 []) h (fun v1_54 h => ?_) (fun k_55 hk_55 h => ?_)
      · refine y_iinc cx 2 d_X12_ease_41 44 rfl rfl (by decide) (lv' := [(2, .int (zI (v2_4 + 1))), (0, .ref (g.2.2 0)), (1, .int (zI v1_54))]) rfl ?_
        refine z_goto cx d_X12_ease_44 18 (by decide) ?_
        refine z_sub [1, 2, 0] rfl ?_
        exact hrec_5 _ _ h
      refine y_icmp_le cx d_X12_ease_36 39 rfl 41 (by decide) rfl rfl h (fun h => ?_) (fun h => ?_)
      · exact hk_55 _ h
      · refine z_iload_n cx d_X12_ease_39 40 rfl rfl 2 rfl ?_
        refine y_istore_n cx d_X12_ease_40 41 rfl rfl (by decide) (lv' := [(1, .int (zI v2_4)), (0, .ref (g.2.2 0)), (2, .int (zI v2_4))]) rfl ?_
        refine z_sub [1, 0, 2] rfl ?_
        exact hk_55 _ h
  · refine y_iconst cx d_X12_ease_12 13 rfl ?_
    subst hQ
    obtain rfl := Option.some.inj h
    exact z_iret cx d_X12_ease_13 rfl rfl
def zrM_treeOf : Room := { frames := 2, cells := 0, slots := 0, locals := 44 }
set_option maxHeartbeats 4000000 in
theorem tM_treeOf {l : Launch} {g : ZG} {M : ZB} {a1 : Int} {r : Int} (h : fM_treeOf M a1 = some r) : zMi l yX12_treeOf cX12_treeOf 2 (some .int) zrM_treeOf g [.ref (g.2.2 0), .int (zI a1)] (wM g M) (wM g M) (zI r) := by
  unfold fM_treeOf at h
  refine zMi_q (own := RX12) rfl (by decide +kernel) (Nat.le_of_ble_eq_true rfl) (lv := [(0, .ref (g.2.2 0)), (1, .int (zI a1))]) rfl ⟨rfl, rfl⟩ ?_
  intro p e s m args below meth c A Q hQ cx
  refine z_aload_n cx d_X12_treeOf_0 1 rfl rfl 0 rfl ?_
  refine z_iload_n cx d_X12_treeOf_1 2 rfl rfl 1 rfl ?_
  refine y_callV_i (As := [.int (zI a1)]) (rest := []) (W := fun u_1 => wM g M) (rf := fun u_1 => zI u_1) (rm := zrM_inForest) cx (fun _ hq => tM_inForest hq) d_X12_treeOf_2 5 rfl kk_X12_inForest q_1614 q_1616 q_69 rfl e_M rfl ⟨rfl, rfl⟩ ⟨Nat.le_of_ble_eq_true rfl, Nat.le_of_ble_eq_true rfl⟩ rfl rfl (Nat.le_of_ble_eq_true rfl) ⟨Nat.zero_le _, Nat.zero_le _⟩ h (fun u_1 h => ?_)
  refine z_aload_n cx d_X12_treeOf_5 6 rfl rfl 0 rfl ?_
  refine z_get cx d_X12_treeOf_6 9 rfl e_M rfl zX12 33 (by decide) q_1394 rfl rfl ?_
  refine y_iconst cx d_X12_treeOf_9 10 rfl ?_
  refine y_ialdx cx d_X12_treeOf_10 11 rfl e_M_gone (by decide) h (fun x_2 h => ?_)
  refine y_iconst cx d_X12_treeOf_11 12 rfl ?_
  refine y_ixor cx d_X12_treeOf_12 13 rfl ?_
  refine y_iand cx d_X12_treeOf_13 14 rfl ?_
  refine z_aload_n cx d_X12_treeOf_14 15 rfl rfl 0 rfl ?_
  refine z_get cx d_X12_treeOf_15 18 rfl e_M rfl zX12 33 (by decide) q_1394 rfl rfl ?_
  refine y_iconst cx d_X12_treeOf_18 19 rfl ?_
  refine y_ialdx cx d_X12_treeOf_19 20 rfl e_M_gone (by decide) h (fun x_3 h => ?_)
  refine y_ior cx d_X12_treeOf_20 21 rfl ?_
  subst hQ
  obtain rfl := Option.some.inj h
  exact z_iret cx d_X12_treeOf_21 rfl rfl
def zrM_answerTo : Room := { frames := 3, cells := 0, slots := 0, locals := 65 }
set_option maxHeartbeats 4000000 in
theorem tM_answerTo {l : Launch} {g : ZG} {M : ZB} {a1 : Int} {r : Int} (h : fM_answerTo M a1 = some r) : zMi l yX12_answerTo cX12_answerTo 5 (some .int) zrM_answerTo g [.ref (g.2.2 0), .int (zI a1)] (wM g M) (wM g M) (zI r) := by
  unfold fM_answerTo at h
  refine zMi_q (own := RX12) rfl (by decide +kernel) (Nat.le_of_ble_eq_true rfl) (lv := [(0, .ref (g.2.2 0)), (1, .int (zI a1))]) rfl ⟨rfl, rfl⟩ ?_
  intro p e s m args below meth c A Q hQ cx
  refine z_aload_n cx d_X12_answerTo_0 1 rfl rfl 0 rfl ?_
  refine z_aload_n cx d_X12_answerTo_1 2 rfl rfl 0 rfl ?_
  refine z_iload_n cx d_X12_answerTo_2 3 rfl rfl 1 rfl ?_
  refine y_callV_i (As := [.int (zI a1)]) (rest := [.ref (g.2.2 0)]) (W := fun u_1 => wM g M) (rf := fun u_1 => zI u_1) (rm := zr0) cx (fun _ hq => tM_lies hq) d_X12_answerTo_3 6 rfl kk_X12_lies q_1586 q_1588 q_64 rfl e_M rfl ⟨rfl, rfl⟩ ⟨Nat.le_of_ble_eq_true rfl, Nat.le_of_ble_eq_true rfl⟩ rfl rfl (Nat.le_of_ble_eq_true rfl) ⟨Nat.zero_le _, Nat.zero_le _⟩ h (fun u_1 h => ?_)
  refine y_callV_i (As := [.int (zI u_1)]) (rest := []) (W := fun u_2 => wM g M) (rf := fun u_2 => zI u_2) (rm := zrM_treeOf) cx (fun _ hq => tM_treeOf hq) d_X12_answerTo_6 9 rfl kk_X12_treeOf q_1796 q_1798 q_96 rfl e_M rfl ⟨rfl, rfl⟩ ⟨Nat.le_of_ble_eq_true rfl, Nat.le_of_ble_eq_true rfl⟩ rfl rfl (Nat.le_of_ble_eq_true rfl) ⟨Nat.zero_le _, Nat.zero_le _⟩ h (fun u_2 h => ?_)
  refine y_iconst cx d_X12_answerTo_9 10 rfl ?_
  refine z_iload_n cx d_X12_answerTo_10 11 rfl rfl 1 rfl ?_
  refine y_ishl cx d_X12_answerTo_11 12 rfl ?_
  refine y_iconst cx d_X12_answerTo_12 13 rfl ?_
  refine y_ixor cx d_X12_answerTo_13 14 rfl ?_
  refine y_iand cx d_X12_answerTo_14 15 rfl ?_
  refine y_istore_n_b cx d_X12_answerTo_15 16 rfl rfl (by decide) (fun y => [(2, .int (zI y)), (0, .ref (g.2.2 0)), (1, .int (zI a1))]) (fun y => rfl) h (fun v2_3 h => ?_)
  refine z_aload_n cx d_X12_answerTo_16 17 rfl rfl 1 rfl ?_
  refine z_aload_n cx d_X12_answerTo_17 18 rfl rfl 1 rfl ?_
  refine z_get cx d_X12_answerTo_18 21 rfl e_M rfl zX12 12 (by decide) q_1373 rfl rfl ?_
  refine y_iconst cx d_X12_answerTo_21 22 rfl ?_
  refine z_iload_n cx d_X12_answerTo_22 23 rfl rfl 2 rfl ?_
  refine y_iadd cx d_X12_answerTo_23 24 rfl ?_
  refine y_ialdx cx d_X12_answerTo_24 25 rfl e_M_now (by decide) h (fun x_4 h => ?_)
  refine z_iload_n cx d_X12_answerTo_25 26 rfl rfl 0 rfl ?_
  refine y_callV_i (As := [.int (zI x_4), .int (zI v2_3)]) (rest := []) (W := fun u_5 => wM g M) (rf := fun u_5 => zI u_5) (rm := zrM_joined) cx (fun _ hq => tM_joined hq) d_X12_answerTo_26 29 rfl kk_X12_joined q_1622 q_1624 q_71 rfl e_M rfl ⟨rfl, rfl⟩ ⟨Nat.le_of_ble_eq_true rfl, Nat.le_of_ble_eq_true rfl⟩ rfl rfl (Nat.le_of_ble_eq_true rfl) ⟨Nat.zero_le _, Nat.zero_le _⟩ h (fun u_5 h => ?_)
  refine y_istore_n cx d_X12_answerTo_29 30 rfl rfl (by decide) (lv' := [(3, .int (zI u_5)), (2, .int (zI v2_3)), (0, .ref (g.2.2 0)), (1, .int (zI a1))]) rfl ?_
  refine y_iconst cx d_X12_answerTo_30 31 rfl ?_
  refine y_istore cx d_X12_answerTo_31 33 rfl (by decide) (lv' := [(4, .int (zI 0)), (3, .int (zI u_5)), (2, .int (zI v2_3)), (0, .ref (g.2.2 0)), (1, .int (zI a1))]) rfl ?_
  refine z_sub [3, 4, 1, 0] rfl ?_
  refine lop1_f (P := fun (v4_6 : Int) => V p l e zrM_answerTo s m args below meth c A s.heap g 5 Q (wM g M) 0 0 [(0, .ref (g.2.2 0)), (1, .int (zI a1)), (3, .int (zI u_5)), (4, .int (zI v4_6))] 33 []) (fun rec_7 hrec_7 v4_6 h => ?_) _ _ h
  refine z_iload cx d_X12_answerTo_33 35 rfl 3 rfl ?_
  refine z_aload_n cx d_X12_answerTo_35 36 rfl rfl 0 rfl ?_
  refine y_callV_i (As := []) (rest := [.int (zI v4_6)]) (W := fun u_8 => wM g M) (rf := fun u_8 => zI u_8) (rm := zr0) cx (fun _ hq => tM_lines hq) d_X12_answerTo_36 39 rfl kk_X12_lines q_1582 q_1584 q_63 rfl e_M rfl ⟨rfl, rfl⟩ ⟨Nat.le_of_ble_eq_true rfl, Nat.le_of_ble_eq_true rfl⟩ rfl rfl (Nat.le_of_ble_eq_true rfl) ⟨Nat.zero_le _, Nat.zero_le _⟩ h (fun u_8 h => ?_)
  refine y_icmp_ge cx d_X12_answerTo_39 42 rfl 118 (by decide) rfl rfl h (fun h => ?_) (fun h => ?_)
  · refine y_iconst cx d_X12_answerTo_118 119 rfl ?_
    subst hQ
    obtain rfl := Option.some.inj h
    exact z_iret cx d_X12_answerTo_119 rfl rfl
  · refine z_aload_n cx d_X12_answerTo_42 43 rfl rfl 0 rfl ?_
    refine z_iload cx d_X12_answerTo_43 45 rfl 3 rfl ?_
    refine y_callV_i (As := [.int (zI v4_6)]) (rest := []) (W := fun u_9 => wM g M) (rf := fun u_9 => zI u_9) (rm := zr0) cx (fun _ hq => tM_lies hq) d_X12_answerTo_45 48 rfl kk_X12_lies q_1586 q_1588 q_64 rfl e_M rfl ⟨rfl, rfl⟩ ⟨Nat.le_of_ble_eq_true rfl, Nat.le_of_ble_eq_true rfl⟩ rfl rfl (Nat.le_of_ble_eq_true rfl) ⟨Nat.zero_le _, Nat.zero_le _⟩ h (fun u_9 h => ?_)
    refine y_iconst cx d_X12_answerTo_48 49 rfl ?_
    refine z_aload_n cx d_X12_answerTo_49 50 rfl rfl 0 rfl ?_
    refine z_iload_n cx d_X12_answerTo_50 51 rfl rfl 1 rfl ?_
    refine y_callV_i (As := [.int (zI a1)]) (rest := [.int (zI 1), .int (zI u_9)]) (W := fun u_10 => wM g M) (rf := fun u_10 => zI u_10) (rm := zr0) cx (fun _ hq => tM_lies hq) d_X12_answerTo_51 54 rfl kk_X12_lies q_1586 q_1588 q_64 rfl e_M rfl ⟨rfl, rfl⟩ ⟨Nat.le_of_ble_eq_true rfl, Nat.le_of_ble_eq_true rfl⟩ rfl rfl (Nat.le_of_ble_eq_true rfl) ⟨Nat.zero_le _, Nat.zero_le _⟩ h (fun u_10 h => ?_)
    refine y_isub cx d_X12_answerTo_54 55 rfl ?_
    refine kf0_f (P := V p l e zrM_answerTo s m args below meth c A s.heap g 5 Q (wM g M) 0 0 [(0, .ref (g.2.2 0)), (1, .int (zI a1)), (3, .int (zI u_5)), (4, .int (zI v4_6))] 112 []) h (fun h => ?_) (fun k_11 hk_11 h => ?_)
    · refine y_iinc cx 3 d_X12_answerTo_112 115 rfl rfl (by decide) (lv' := [(4, .int (zI (v4_6 + 1))), (0, .ref (g.2.2 0)), (1, .int (zI a1)), (3, .int (zI u_5))]) rfl ?_
      refine z_goto cx d_X12_answerTo_115 33 (by decide) ?_
      refine z_sub [1, 2, 3, 0] rfl ?_
      exact hrec_7 _ h
    refine y_icmp_ne cx d_X12_answerTo_55 58 rfl 112 (by decide) rfl rfl h (fun h => ?_) (fun h => ?_)
    · exact hk_11  h
    · refine z_aload_n cx d_X12_answerTo_58 59 rfl rfl 0 rfl ?_
      refine z_get cx d_X12_answerTo_59 62 rfl e_M rfl zX12 33 (by decide) q_1394 rfl rfl ?_
      refine y_iconst cx d_X12_answerTo_62 63 rfl ?_
      refine y_ialdx cx d_X12_answerTo_63 64 rfl e_M_gone (by decide) h (fun x_12 h => ?_)
      refine z_aload_n cx d_X12_answerTo_64 65 rfl rfl 0 rfl ?_
      refine z_get cx d_X12_answerTo_65 68 rfl e_M rfl zX12 33 (by decide) q_1394 rfl rfl ?_
      refine y_iconst cx d_X12_answerTo_68 69 rfl ?_
      refine y_ialdx cx d_X12_answerTo_69 70 rfl e_M_gone (by decide) h (fun x_13 h => ?_)
      refine y_ior cx d_X12_answerTo_70 71 rfl ?_
      refine z_iload cx d_X12_answerTo_71 73 rfl 3 rfl ?_
      refine y_callS_i (As := [.int (zI (zor x_12 x_13)), .int (zI v4_6)]) (rest := []) (W := fun u_14 => wM g M) (rf := fun u_14 => zI u_14) (rm := zr0) cx (fun _ hq => tM_has hq) d_X12_answerTo_73 76 rfl kk_X12_has q_1626 q_1627 ⟨rfl, rfl⟩ ⟨Nat.le_of_ble_eq_true rfl, Nat.le_of_ble_eq_true rfl⟩ rfl rfl (Nat.le_of_ble_eq_true rfl) ⟨Nat.zero_le _, Nat.zero_le _⟩ h (fun u_14 h => ?_)
      refine y_if_ne cx d_X12_answerTo_76 79 rfl 112 (by decide) rfl h (fun h => ?_) (fun h => ?_)
      · exact hk_11  h
      · refine z_iload_n cx d_X12_answerTo_79 80 rfl rfl 2 rfl ?_
        refine z_aload_n cx d_X12_answerTo_80 81 rfl rfl 0 rfl ?_
        refine z_get cx d_X12_answerTo_81 84 rfl e_M rfl zX12 12 (by decide) q_1373 rfl rfl ?_
        refine y_iconst cx d_X12_answerTo_84 85 rfl ?_
        refine z_iload cx d_X12_answerTo_85 87 rfl 3 rfl ?_
        refine y_iadd cx d_X12_answerTo_87 88 rfl ?_
        refine y_ialdx cx d_X12_answerTo_88 89 rfl e_M_now (by decide) h (fun x_15 h => ?_)
        refine y_callS_i (As := [.int (zI u_5), .int (zI x_15)]) (rest := []) (W := fun u_16 => wM g M) (rf := fun u_16 => zI u_16) (rm := zr0) cx (fun _ hq => tM_has hq) d_X12_answerTo_89 92 rfl kk_X12_has q_1626 q_1627 ⟨rfl, rfl⟩ ⟨Nat.le_of_ble_eq_true rfl, Nat.le_of_ble_eq_true rfl⟩ rfl rfl (Nat.le_of_ble_eq_true rfl) ⟨Nat.zero_le _, Nat.zero_le _⟩ h (fun u_16 h => ?_)
        refine z_iload_n cx d_X12_answerTo_92 93 rfl rfl 2 rfl ?_
        refine z_aload_n cx d_X12_answerTo_93 94 rfl rfl 0 rfl ?_
        refine z_get cx d_X12_answerTo_94 97 rfl e_M rfl zX12 12 (by decide) q_1373 rfl rfl ?_
        refine y_bipush cx d_X12_answerTo_97 99 rfl (by decide) ?_
        refine z_iload cx d_X12_answerTo_99 101 rfl 3 rfl ?_
        refine y_iadd cx d_X12_answerTo_101 102 rfl ?_
        refine y_ialdx cx d_X12_answerTo_102 103 rfl e_M_now (by decide) h (fun x_17 h => ?_)
        refine y_callS_i (As := [.int (zI u_5), .int (zI x_17)]) (rest := [.int (zI u_16)]) (W := fun u_18 => wM g M) (rf := fun u_18 => zI u_18) (rm := zr0) cx (fun _ hq => tM_has hq) d_X12_answerTo_103 106 rfl kk_X12_has q_1626 q_1627 ⟨rfl, rfl⟩ ⟨Nat.le_of_ble_eq_true rfl, Nat.le_of_ble_eq_true rfl⟩ rfl rfl (Nat.le_of_ble_eq_true rfl) ⟨Nat.zero_le _, Nat.zero_le _⟩ h (fun u_18 h => ?_)
        refine y_icmp_eq cx d_X12_answerTo_106 109 rfl 112 (by decide) rfl rfl h (fun h => ?_) (fun h => ?_)
        · exact hk_11  h
        · refine z_iload cx d_X12_answerTo_109 111 rfl 3 rfl ?_
          subst hQ
          obtain rfl := Option.some.inj h
          exact z_iret cx d_X12_answerTo_111 rfl rfl
def zrM_game : Room := { frames := 4, cells := 0, slots := 0, locals := 89 }
set_option maxHeartbeats 4000000 in
theorem tM_game {l : Launch} {g : ZG} {M : ZB}  {r : Int × ZB} (h : fM_game M = some r) : zMi l yX12_game cX12_game 5 (some .int) zrM_game g [.ref (g.2.2 0)] (wM g M) (wM g r.2) (zI r.1) := by
  unfold fM_game at h
  refine zMi_q (own := RX12) rfl (by decide +kernel) (Nat.le_of_ble_eq_true rfl) (lv := [(0, .ref (g.2.2 0))]) rfl ⟨rfl, rfl⟩ ?_
  intro p e s m args below meth c A Q hQ cx
  refine z_aload_n cx d_X12_game_0 1 rfl rfl 0 rfl ?_
  refine y_iconst cx d_X12_game_1 2 rfl ?_
  refine y_put cx d_X12_game_2 5 rfl e_M rfl zX12 tyX12_ok nmX12 0 (by decide) q_1361 rfl rfl rfl rfl (Nat.le_of_ble_eq_true rfl) h (fun _ h9 => s_M_0 h9) (fun M_1 h => ?_)
  refine z_aload_n cx d_X12_game_5 6 rfl rfl 0 rfl ?_
  refine z_get cx d_X12_game_6 9 rfl e_M rfl zX12 2 (by decide) q_1363 rfl rfl ?_
  refine y_istore_n cx d_X12_game_9 10 rfl rfl (by decide) (lv' := [(1, .int (zI (M_1.1 2))), (0, .ref (g.2.2 0))]) rfl ?_
  refine z_aload_n cx d_X12_game_10 11 rfl rfl 1 rfl ?_
  refine y_iconst cx d_X12_game_11 12 rfl ?_
  refine y_put cx d_X12_game_12 15 rfl e_M rfl zX12 tyX12_ok nmX12 2 (by decide) q_1363 rfl rfl rfl rfl (Nat.le_of_ble_eq_true rfl) h (fun _ h9 => s_M_2 h9) (fun M_2 h => ?_)
  refine z_aload_n cx d_X12_game_15 16 rfl rfl 1 rfl ?_
  refine y_callV_i (As := []) (rest := []) (W := fun u_3 => wM g M_2) (rf := fun u_3 => zI u_3) (rm := zr0) cx (fun _ hq => tM_points hq) d_X12_game_16 19 rfl kk_X12_points q_1641 q_1643 q_73 rfl e_M rfl ⟨rfl, rfl⟩ ⟨Nat.le_of_ble_eq_true rfl, Nat.le_of_ble_eq_true rfl⟩ rfl rfl (Nat.le_of_ble_eq_true rfl) ⟨Nat.zero_le _, Nat.zero_le _⟩ h (fun u_3 h => ?_)
  refine y_iconst cx d_X12_game_19 20 rfl ?_
  refine kf0_f (P := V p l e zrM_game s m args below meth c A s.heap g 5 Q (wM g M_2) 0 0 [] 65 []) h (fun h => ?_) (fun k_4 hk_4 h => ?_)
  · refine y_iconst cx d_X12_game_65 66 rfl ?_
    subst hQ
    obtain rfl := Option.some.inj h
    exact z_iret cx d_X12_game_66 rfl rfl
  refine y_icmp_lt cx d_X12_game_20 23 rfl 65 (by decide) rfl (nm_eq (x := 2) (by decide) (by decide)) h (fun h => ?_) (fun h => ?_)
  · refine z_sub [] rfl ?_
    exact hk_4  h
  · refine z_aload_n cx d_X12_game_23 24 rfl rfl 1 rfl ?_
    refine y_callV_i (As := []) (rest := []) (W := fun u_5 => wM g M_2) (rf := fun u_5 => zI u_5) (rm := zr0) cx (fun _ hq => tM_many hq) d_X12_game_24 27 rfl kk_X12_many q_1574 q_1576 q_61 rfl e_M rfl ⟨rfl, rfl⟩ ⟨Nat.le_of_ble_eq_true rfl, Nat.le_of_ble_eq_true rfl⟩ rfl rfl (Nat.le_of_ble_eq_true rfl) ⟨Nat.zero_le _, Nat.zero_le _⟩ h (fun u_5 h => ?_)
    refine y_iconst cx d_X12_game_27 28 rfl ?_
    refine y_icmp_lt cx d_X12_game_28 31 rfl 65 (by decide) rfl (nm_eq (x := 2) (by decide) (by decide)) h (fun h => ?_) (fun h => ?_)
    · refine z_sub [] rfl ?_
      exact hk_4  h
    · refine z_aload_n cx d_X12_game_31 32 rfl rfl 1 rfl ?_
      refine y_iconst cx d_X12_game_32 33 rfl ?_
      refine y_callV_i (As := [.int (zI 0)]) (rest := []) (W := fun u_6 => wM g M_2) (rf := fun u_6 => zI u_6) (rm := zrM_inForest) cx (fun _ hq => tM_inForest hq) d_X12_game_33 36 rfl kk_X12_inForest q_1614 q_1616 q_69 rfl e_M rfl ⟨rfl, rfl⟩ ⟨Nat.le_of_ble_eq_true rfl, Nat.le_of_ble_eq_true rfl⟩ rfl rfl (Nat.le_of_ble_eq_true rfl) ⟨Nat.zero_le _, Nat.zero_le _⟩ h (fun u_6 h => ?_)
      refine y_callS_i (As := [.int (zI u_6)]) (rest := []) (W := fun u_7 => wM g M_2) (rf := fun u_7 => zI u_7) (rm := zr0) cx (fun _ hq => tM_bits hq) d_X12_game_36 39 rfl kk_X12_bits q_1649 q_1650 ⟨rfl, rfl⟩ ⟨Nat.le_of_ble_eq_true rfl, Nat.le_of_ble_eq_true rfl⟩ rfl rfl (Nat.le_of_ble_eq_true rfl) ⟨Nat.zero_le _, Nat.zero_le _⟩ h (fun u_7 h => ?_)
      refine z_aload_n cx d_X12_game_39 40 rfl rfl 1 rfl ?_
      refine y_callV_i (As := []) (rest := [.int (zI u_7)]) (W := fun u_8 => wM g M_2) (rf := fun u_8 => zI u_8) (rm := zr0) cx (fun _ hq => tM_points hq) d_X12_game_40 43 rfl kk_X12_points q_1641 q_1643 q_73 rfl e_M rfl ⟨rfl, rfl⟩ ⟨Nat.le_of_ble_eq_true rfl, Nat.le_of_ble_eq_true rfl⟩ rfl rfl (Nat.le_of_ble_eq_true rfl) ⟨Nat.zero_le _, Nat.zero_le _⟩ h (fun u_8 h => ?_)
      refine y_iconst cx d_X12_game_43 44 rfl ?_
      refine y_isub cx d_X12_game_44 45 rfl ?_
      refine y_icmp_ne cx d_X12_game_45 48 rfl 65 (by decide) rfl rfl h (fun h => ?_) (fun h => ?_)
      · refine z_sub [] rfl ?_
        exact hk_4  h
      · refine z_aload_n cx d_X12_game_48 49 rfl rfl 1 rfl ?_
        refine y_iconst cx d_X12_game_49 50 rfl ?_
        refine y_callV_i (As := [.int (zI 1)]) (rest := []) (W := fun u_9 => wM g M_2) (rf := fun u_9 => zI u_9) (rm := zrM_inForest) cx (fun _ hq => tM_inForest hq) d_X12_game_50 53 rfl kk_X12_inForest q_1614 q_1616 q_69 rfl e_M rfl ⟨rfl, rfl⟩ ⟨Nat.le_of_ble_eq_true rfl, Nat.le_of_ble_eq_true rfl⟩ rfl rfl (Nat.le_of_ble_eq_true rfl) ⟨Nat.zero_le _, Nat.zero_le _⟩ h (fun u_9 h => ?_)
        refine y_callS_i (As := [.int (zI u_9)]) (rest := []) (W := fun u_10 => wM g M_2) (rf := fun u_10 => zI u_10) (rm := zr0) cx (fun _ hq => tM_bits hq) d_X12_game_53 56 rfl kk_X12_bits q_1649 q_1650 ⟨rfl, rfl⟩ ⟨Nat.le_of_ble_eq_true rfl, Nat.le_of_ble_eq_true rfl⟩ rfl rfl (Nat.le_of_ble_eq_true rfl) ⟨Nat.zero_le _, Nat.zero_le _⟩ h (fun u_10 h => ?_)
        refine z_aload_n cx d_X12_game_56 57 rfl rfl 1 rfl ?_
        refine y_callV_i (As := []) (rest := [.int (zI u_10)]) (W := fun u_11 => wM g M_2) (rf := fun u_11 => zI u_11) (rm := zr0) cx (fun _ hq => tM_points hq) d_X12_game_57 60 rfl kk_X12_points q_1641 q_1643 q_73 rfl e_M rfl ⟨rfl, rfl⟩ ⟨Nat.le_of_ble_eq_true rfl, Nat.le_of_ble_eq_true rfl⟩ rfl rfl (Nat.le_of_ble_eq_true rfl) ⟨Nat.zero_le _, Nat.zero_le _⟩ h (fun u_11 h => ?_)
        refine y_iconst cx d_X12_game_60 61 rfl ?_
        refine y_isub cx d_X12_game_61 62 rfl ?_
        refine y_icmp_eq cx d_X12_game_62 65 rfl 67 (by decide) rfl rfl h (fun h => ?_) (fun h => ?_)
        · refine z_aload_n cx d_X12_game_67 68 rfl rfl 1 rfl ?_
          refine z_get cx d_X12_game_68 71 rfl e_M rfl zX12 33 (by decide) q_1394 rfl rfl ?_
          refine y_iconst cx d_X12_game_71 72 rfl ?_
          refine y_iconst cx d_X12_game_72 73 rfl ?_
          refine y_iast cx d_X12_game_73 74 rfl e_M_gone (by decide) h (fun _ h9 => s_M_gone h9) (fun M_12 h => ?_)
          refine z_aload_n cx d_X12_game_74 75 rfl rfl 1 rfl ?_
          refine z_get cx d_X12_game_75 78 rfl e_M rfl zX12 33 (by decide) q_1394 rfl rfl ?_
          refine y_iconst cx d_X12_game_78 79 rfl ?_
          refine y_iconst cx d_X12_game_79 80 rfl ?_
          refine y_iast cx d_X12_game_80 81 rfl e_M_gone (by decide) h (fun _ h9 => s_M_gone h9) (fun M_13 h => ?_)
          refine z_aload_n cx d_X12_game_81 82 rfl rfl 1 rfl ?_
          refine y_iconst cx d_X12_game_82 83 rfl ?_
          refine y_put cx d_X12_game_83 86 rfl e_M rfl zX12 tyX12_ok nmX12 32 (by decide) q_1393 rfl rfl rfl rfl (Nat.le_of_ble_eq_true rfl) h (fun _ h9 => s_M_32 h9) (fun M_14 h => ?_)
          refine y_iconst cx d_X12_game_86 87 rfl ?_
          refine y_istore_n cx d_X12_game_87 88 rfl rfl (by decide) (lv' := [(2, .int (zI 0)), (1, .int (zI (M_1.1 2))), (0, .ref (g.2.2 0))]) rfl ?_
          refine z_sub [2, 1, 0] rfl ?_
          refine lop2_f (P := fun (v2_15 : Int) (M_16 : ZB) => V p l e zrM_game s m args below meth c A s.heap g 5 Q (wM g M_16) 0 0 [(0, .ref (g.2.2 0)), (1, .int (zI (M_1.1 2))), (2, .int (zI v2_15))] 88 []) (fun rec_17 hrec_17 v2_15 M_16 h => ?_) _ _ _ h
          refine z_iload_n cx d_X12_game_88 89 rfl rfl 2 rfl ?_
          refine z_iload_n cx d_X12_game_89 90 rfl rfl 1 rfl ?_
          refine kf0_f (P := V p l e zrM_game s m args below meth c A s.heap g 5 Q (wM g M_16) 0 0 [(0, .ref (g.2.2 0))] 214 []) h (fun h => ?_) (fun k_18 hk_18 h => ?_)
          · refine z_aload_n cx d_X12_game_214 215 rfl rfl 0 rfl ?_
            refine z_get cx d_X12_game_215 218 rfl e_M rfl zX12 32 (by decide) q_1393 rfl rfl ?_
            subst hQ
            obtain rfl := Option.some.inj h
            exact z_iret cx d_X12_game_218 rfl rfl
          refine y_icmp_ge cx d_X12_game_90 93 rfl 214 (by decide) rfl rfl h (fun h => ?_) (fun h => ?_)
          · refine z_sub [0] rfl ?_
            exact hk_18  h
          · refine z_aload_n cx d_X12_game_93 94 rfl rfl 0 rfl ?_
            refine z_get cx d_X12_game_94 97 rfl e_M rfl zX12 1 (by decide) q_1362 rfl rfl ?_
            refine z_iload_n cx d_X12_game_97 98 rfl rfl 2 rfl ?_
            refine y_ialdx cx d_X12_game_98 99 rfl e_M_tape (by decide) h (fun x_19 h => ?_)
            refine y_istore_n cx d_X12_game_99 100 rfl rfl (by decide) (lv' := [(3, .int (zI x_19)), (0, .ref (g.2.2 0)), (1, .int (zI (M_1.1 2))), (2, .int (zI v2_15))]) rfl ?_
            refine z_iload_n cx d_X12_game_100 101 rfl rfl 0 rfl ?_
            refine z_aload_n cx d_X12_game_101 102 rfl rfl 1 rfl ?_
            refine y_callV_i (As := []) (rest := [.int (zI x_19)]) (W := fun u_20 => wM g M_16) (rf := fun u_20 => zI u_20) (rm := zr0) cx (fun _ hq => tM_lines hq) d_X12_game_102 105 rfl kk_X12_lines q_1582 q_1584 q_63 rfl e_M rfl ⟨rfl, rfl⟩ ⟨Nat.le_of_ble_eq_true rfl, Nat.le_of_ble_eq_true rfl⟩ rfl rfl (Nat.le_of_ble_eq_true rfl) ⟨Nat.zero_le _, Nat.zero_le _⟩ h (fun u_20 h => ?_)
            refine y_icmp_ge cx d_X12_game_105 108 rfl 214 (by decide) rfl rfl h (fun h => ?_) (fun h => ?_)
            · refine z_sub [1] rfl ?_
              exact hk_18  h
            · refine z_aload_n cx d_X12_game_108 109 rfl rfl 1 rfl ?_
              refine z_iload_n cx d_X12_game_109 110 rfl rfl 0 rfl ?_
              refine y_callV_i (As := [.int (zI x_19)]) (rest := []) (W := fun u_21 => wM g M_16) (rf := fun u_21 => zI u_21) (rm := zr0) cx (fun _ hq => tM_lies hq) d_X12_game_110 113 rfl kk_X12_lies q_1586 q_1588 q_64 rfl e_M rfl ⟨rfl, rfl⟩ ⟨Nat.le_of_ble_eq_true rfl, Nat.le_of_ble_eq_true rfl⟩ rfl rfl (Nat.le_of_ble_eq_true rfl) ⟨Nat.zero_le _, Nat.zero_le _⟩ h (fun u_21 h => ?_)
              refine y_iconst cx d_X12_game_113 114 rfl ?_
              refine y_icmp_eq cx d_X12_game_114 117 rfl 214 (by decide) rfl (nm_eq (x := (-1)) (by decide) (by decide)) h (fun h => ?_) (fun h => ?_)
              · refine z_sub [1] rfl ?_
                exact hk_18  h
              · refine z_aload_n cx d_X12_game_117 118 rfl rfl 1 rfl ?_
                refine z_iload_n cx d_X12_game_118 119 rfl rfl 0 rfl ?_
                refine y_callV_i (As := [.int (zI x_19)]) (rest := []) (W := fun u_22 => wM g M_16) (rf := fun u_22 => zI u_22) (rm := zr0) cx (fun _ hq => tM_lies hq) d_X12_game_119 122 rfl kk_X12_lies q_1586 q_1588 q_64 rfl e_M rfl ⟨rfl, rfl⟩ ⟨Nat.le_of_ble_eq_true rfl, Nat.le_of_ble_eq_true rfl⟩ rfl rfl (Nat.le_of_ble_eq_true rfl) ⟨Nat.zero_le _, Nat.zero_le _⟩ h (fun u_22 h => ?_)
                refine y_iconst cx d_X12_game_122 123 rfl ?_
                refine y_icmp_gt cx d_X12_game_123 126 rfl 214 (by decide) rfl (nm_eq (x := 1) (by decide) (by decide)) h (fun h => ?_) (fun h => ?_)
                · refine z_sub [1] rfl ?_
                  exact hk_18  h
                · refine z_aload_n cx d_X12_game_126 127 rfl rfl 1 rfl ?_
                  refine z_get cx d_X12_game_127 130 rfl e_M rfl zX12 33 (by decide) q_1394 rfl rfl ?_
                  refine y_iconst cx d_X12_game_130 131 rfl ?_
                  refine y_ialdx cx d_X12_game_131 132 rfl e_M_gone (by decide) h (fun x_23 h => ?_)
                  refine z_aload_n cx d_X12_game_132 133 rfl rfl 1 rfl ?_
                  refine z_get cx d_X12_game_133 136 rfl e_M rfl zX12 33 (by decide) q_1394 rfl rfl ?_
                  refine y_iconst cx d_X12_game_136 137 rfl ?_
                  refine y_ialdx cx d_X12_game_137 138 rfl e_M_gone (by decide) h (fun x_24 h => ?_)
                  refine y_ior cx d_X12_game_138 139 rfl ?_
                  refine z_iload_n cx d_X12_game_139 140 rfl rfl 0 rfl ?_
                  refine y_callS_i (As := [.int (zI (zor x_23 x_24)), .int (zI x_19)]) (rest := []) (W := fun u_25 => wM g M_16) (rf := fun u_25 => zI u_25) (rm := zr0) cx (fun _ hq => tM_has hq) d_X12_game_140 143 rfl kk_X12_has q_1626 q_1627 ⟨rfl, rfl⟩ ⟨Nat.le_of_ble_eq_true rfl, Nat.le_of_ble_eq_true rfl⟩ rfl rfl (Nat.le_of_ble_eq_true rfl) ⟨Nat.zero_le _, Nat.zero_le _⟩ h (fun u_25 h => ?_)
                  refine y_if_eq cx d_X12_game_143 146 rfl 149 (by decide) rfl h (fun h => ?_) (fun h => ?_)
                  · refine z_aload_n cx d_X12_game_149 150 rfl rfl 1 rfl ?_
                    refine z_iload_n cx d_X12_game_150 151 rfl rfl 0 rfl ?_
                    refine y_callV_i (As := [.int (zI x_19)]) (rest := []) (W := fun u_26 => wM g M_16) (rf := fun u_26 => zI u_26) (rm := zrM_answerTo) cx (fun _ hq => tM_answerTo hq) d_X12_game_151 154 rfl kk_X12_answerTo q_1792 q_1794 q_95 rfl e_M rfl ⟨rfl, rfl⟩ ⟨Nat.le_of_ble_eq_true rfl, Nat.le_of_ble_eq_true rfl⟩ rfl rfl (Nat.le_of_ble_eq_true rfl) ⟨Nat.zero_le _, Nat.zero_le _⟩ h (fun u_26 h => ?_)
                    refine y_istore cx d_X12_game_154 156 rfl (by decide) (lv' := [(4, .int (zI u_26)), (3, .int (zI x_19)), (0, .ref (g.2.2 0)), (1, .int (zI (M_1.1 2))), (2, .int (zI v2_15))]) rfl ?_
                    refine z_aload_n cx d_X12_game_156 157 rfl rfl 2 rfl ?_
                    refine z_get cx d_X12_game_157 160 rfl e_M rfl zX12 33 (by decide) q_1394 rfl rfl ?_
                    refine y_iconst cx d_X12_game_160 161 rfl ?_
                    refine z_dup2 cx d_X12_game_161 162 rfl rfl rfl ?_
                    refine y_ialdx cx d_X12_game_162 163 rfl e_M_gone (by decide) h (fun x_27 h => ?_)
                    refine y_iconst cx d_X12_game_163 164 rfl ?_
                    refine z_iload_n cx d_X12_game_164 165 rfl rfl 1 rfl ?_
                    refine y_ishl cx d_X12_game_165 166 rfl ?_
                    refine y_ior cx d_X12_game_166 167 rfl ?_
                    refine y_iast cx d_X12_game_167 168 rfl e_M_gone (by decide) h (fun _ h9 => s_M_gone h9) (fun M_28 h => ?_)
                    refine z_iload cx d_X12_game_168 170 rfl 0 rfl ?_
                    refine y_iconst cx d_X12_game_170 171 rfl ?_
                    refine kf1_f (P := fun (M_29 : ZB) => V p l e zrM_game s m args below meth c A s.heap g 5 Q (wM g M_29) 0 0 [(0, .ref (g.2.2 0)), (1, .int (zI (M_1.1 2))), (2, .int (zI v2_15)), (4, .int (zI u_26))] 187 []) h (fun M_29 h => ?_) (fun k_30 hk_30 h => ?_)
                    · refine z_aload_n cx d_X12_game_187 188 rfl rfl 0 rfl ?_
                      refine z_get cx d_X12_game_188 191 rfl e_M rfl zX12 31 (by decide) q_1392 rfl rfl ?_
                      refine z_aload_n cx d_X12_game_191 192 rfl rfl 0 rfl ?_
                      refine z_get cx d_X12_game_192 195 rfl e_M rfl zX12 32 (by decide) q_1393 rfl rfl ?_
                      refine z_iload cx d_X12_game_195 197 rfl 3 rfl ?_
                      refine y_iast cx d_X12_game_197 198 rfl e_M_keptRow (by decide) h (fun _ h9 => s_M_keptRow h9) (fun M_31 h => ?_)
                      refine z_aload_n cx d_X12_game_198 199 rfl rfl 0 rfl ?_
                      refine z_dup cx d_X12_game_199 200 rfl rfl ?_
                      refine z_get cx d_X12_game_200 203 rfl e_M rfl zX12 32 (by decide) q_1393 rfl rfl ?_
                      refine y_iconst cx d_X12_game_203 204 rfl ?_
                      refine y_iadd cx d_X12_game_204 205 rfl ?_
                      refine y_put cx d_X12_game_205 208 rfl e_M rfl zX12 tyX12_ok nmX12 32 (by decide) q_1393 rfl rfl rfl rfl (Nat.le_of_ble_eq_true rfl) h (fun _ h9 => s_M_32 h9) (fun M_32 h => ?_)
                      refine y_iinc cx 2 d_X12_game_208 211 rfl rfl (by decide) (lv' := [(2, .int (zI (v2_15 + 1))), (0, .ref (g.2.2 0)), (1, .int (zI (M_1.1 2))), (4, .int (zI u_26))]) rfl ?_
                      refine z_goto cx d_X12_game_211 88 (by decide) ?_
                      refine z_sub [1, 2, 0] rfl ?_
                      exact hrec_17 _ _ h
                    refine y_icmp_eq cx d_X12_game_171 174 rfl 187 (by decide) rfl (nm_eq (x := (-1)) (by decide) (by decide)) h (fun h => ?_) (fun h => ?_)
                    · refine z_sub [2, 3, 4, 0] rfl ?_
                      exact hk_30 _ h
                    · refine z_aload_n cx d_X12_game_174 175 rfl rfl 2 rfl ?_
                      refine z_get cx d_X12_game_175 178 rfl e_M rfl zX12 33 (by decide) q_1394 rfl rfl ?_
                      refine y_iconst cx d_X12_game_178 179 rfl ?_
                      refine z_dup2 cx d_X12_game_179 180 rfl rfl rfl ?_
                      refine y_ialdx cx d_X12_game_180 181 rfl e_M_gone (by decide) h (fun x_33 h => ?_)
                      refine y_iconst cx d_X12_game_181 182 rfl ?_
                      refine z_iload cx d_X12_game_182 184 rfl 0 rfl ?_
                      refine y_ishl cx d_X12_game_184 185 rfl ?_
                      refine y_ior cx d_X12_game_185 186 rfl ?_
                      refine y_iast cx d_X12_game_186 187 rfl e_M_gone (by decide) h (fun _ h9 => s_M_gone h9) (fun M_34 h => ?_)
                      refine z_sub [2, 3, 4, 0] rfl ?_
                      exact hk_30 _ h
                  · refine z_goto cx d_X12_game_146 214 (by decide) ?_
                    refine z_sub [1] rfl ?_
                    exact hk_18  h
        · refine z_sub [] rfl ?_
          exact hk_4  h
def zrM_keptAt : Room := { frames := 1, cells := 0, slots := 0, locals := 22 }
set_option maxHeartbeats 4000000 in
theorem tM_keptAt {l : Launch} {g : ZG} {M : ZB} {a1 : Int} {r : Int × ZB} (h : fM_keptAt M a1 = some r) : zMi l yX12_keptAt cX12_keptAt 2 (some .int) zrM_keptAt g [.ref (g.2.2 0), .int (zI a1)] (wM g M) (wM g r.2) (zI r.1) := by
  unfold fM_keptAt at h
  refine zMi_q (own := RX12) rfl (by decide +kernel) (Nat.le_of_ble_eq_true rfl) (lv := [(0, .ref (g.2.2 0)), (1, .int (zI a1))]) rfl ⟨rfl, rfl⟩ ?_
  intro p e s m args below meth c A Q hQ cx
  refine z_aload_n cx d_X12_keptAt_0 1 rfl rfl 0 rfl ?_
  refine y_iconst cx d_X12_keptAt_1 2 rfl ?_
  refine y_put cx d_X12_keptAt_2 5 rfl e_M rfl zX12 tyX12_ok nmX12 0 (by decide) q_1361 rfl rfl rfl rfl (Nat.le_of_ble_eq_true rfl) h (fun _ h9 => s_M_0 h9) (fun M_1 h => ?_)
  refine z_iload_n cx d_X12_keptAt_5 6 rfl rfl 1 rfl ?_
  refine y_iconst cx d_X12_keptAt_6 7 rfl ?_
  refine z_aload_n cx d_X12_keptAt_7 8 rfl rfl 0 rfl ?_
  refine z_get cx d_X12_keptAt_8 11 rfl e_M rfl zX12 32 (by decide) q_1393 rfl rfl ?_
  refine y_iconst cx d_X12_keptAt_11 12 rfl ?_
  refine y_isub cx d_X12_keptAt_12 13 rfl ?_
  refine y_callS_i (As := [.int (zI a1), .int (zI 0), .int (zI ((M_1.1 32) - 1))]) (rest := []) (W := fun u_2 => wM g M_1) (rf := fun u_2 => zI u_2) (rm := zr0) cx (fun _ hq => tM_isIn hq) d_X12_keptAt_13 16 rfl kk_X12_isIn q_1552 q_1553 ⟨rfl, rfl⟩ ⟨Nat.le_of_ble_eq_true rfl, Nat.le_of_ble_eq_true rfl⟩ rfl rfl (Nat.le_of_ble_eq_true rfl) ⟨Nat.zero_le _, Nat.zero_le _⟩ h (fun u_2 h => ?_)
  refine kf1_f (P := fun (w0_3 : Int) => V p l e zrM_keptAt s m args below meth c A s.heap g 2 Q (wM g M_1) 0 0 [] 29 [.int (zI w0_3)]) h (fun w0_3 h => ?_) (fun k_4 hk_4 h => ?_)
  · subst hQ
    obtain rfl := Option.some.inj h
    exact z_iret cx d_X12_keptAt_29 rfl rfl
  refine y_if_eq cx d_X12_keptAt_16 19 rfl 28 (by decide) rfl h (fun h => ?_) (fun h => ?_)
  · refine y_iconst cx d_X12_keptAt_28 29 rfl ?_
    refine z_sub [] rfl ?_
    exact hk_4 _ h
  · refine z_aload_n cx d_X12_keptAt_19 20 rfl rfl 0 rfl ?_
    refine z_get cx d_X12_keptAt_20 23 rfl e_M rfl zX12 31 (by decide) q_1392 rfl rfl ?_
    refine z_iload_n cx d_X12_keptAt_23 24 rfl rfl 1 rfl ?_
    refine y_ialdx cx d_X12_keptAt_24 25 rfl e_M_keptRow (by decide) h (fun x_5 h => ?_)
    refine z_goto cx d_X12_keptAt_25 29 (by decide) ?_
    refine z_sub [] rfl ?_
    exact hk_4 _ h
set_option maxHeartbeats 4000000 in
theorem tM_copy_snaps_now {l : Launch} {g : ZG} {M : ZB} {a2 : Int} {a4 : Int} {r : ZB} (h : fM_copy_snaps_now M a2 a4 = some r) : zMv l yX12_copy cX12_copy 5 none zr0 g [.ref (g.2.2 5), .int (zI a2), .ref (g.2.2 2), .int (zI a4)] (wM g M) (wM g r) := by
  unfold fM_copy_snaps_now at h
  refine zMv_q (own := RX12) rfl (by decide +kernel) (Nat.le_of_ble_eq_true rfl) (lv := [(0, .ref (g.2.2 5)), (1, .int (zI a2)), (2, .ref (g.2.2 2)), (3, .int (zI a4))]) rfl ⟨rfl, rfl⟩ ?_
  intro p e s m args below meth c A Q hQ cx
  refine y_iconst cx d_X12_copy_0 1 rfl ?_
  refine y_istore cx d_X12_copy_1 3 rfl (by decide) (lv' := [(4, .int (zI 0)), (0, .ref (g.2.2 5)), (1, .int (zI a2)), (2, .ref (g.2.2 2)), (3, .int (zI a4))]) rfl ?_
  refine z_sub [1, 2, 3, 4, 0] rfl ?_
  refine lop2_f (P := fun (v4_1 : Int) (M_2 : ZB) => V p l e zr0 s m args below meth c A s.heap g 5 Q (wM g M_2) 0 0 [(0, .ref (g.2.2 5)), (1, .int (zI a2)), (2, .ref (g.2.2 2)), (3, .int (zI a4)), (4, .int (zI v4_1))] 3 []) (fun rec_3 hrec_3 v4_1 M_2 h => ?_) _ _ _ h
  refine z_iload cx d_X12_copy_3 5 rfl 4 rfl ?_
  refine y_sipush cx d_X12_copy_5 8 rfl (by decide) ?_
  refine y_icmp_ge cx d_X12_copy_8 11 rfl 29 (by decide) rfl (nm_eq (x := 147) (by decide) (by decide)) h (fun h => ?_) (fun h => ?_)
  · subst hQ
    obtain rfl := Option.some.inj h
    exact z_vret cx d_X12_copy_29 rfl
  · refine z_aload_n cx d_X12_copy_11 12 rfl rfl 2 rfl ?_
    refine z_iload_n cx d_X12_copy_12 13 rfl rfl 3 rfl ?_
    refine z_iload cx d_X12_copy_13 15 rfl 4 rfl ?_
    refine y_iadd cx d_X12_copy_15 16 rfl ?_
    refine z_aload_n cx d_X12_copy_16 17 rfl rfl 0 rfl ?_
    refine z_iload_n cx d_X12_copy_17 18 rfl rfl 1 rfl ?_
    refine z_iload cx d_X12_copy_18 20 rfl 4 rfl ?_
    refine y_iadd cx d_X12_copy_20 21 rfl ?_
    refine y_ialdx cx d_X12_copy_21 22 rfl e_M_snaps (by decide) h (fun x_4 h => ?_)
    refine y_iast cx d_X12_copy_22 23 rfl e_M_now (by decide) h (fun _ h9 => s_M_now h9) (fun M_5 h => ?_)
    refine y_iinc cx 4 d_X12_copy_23 26 rfl rfl (by decide) (lv' := [(4, .int (zI (v4_1 + 1))), (0, .ref (g.2.2 5)), (1, .int (zI a2)), (2, .ref (g.2.2 2)), (3, .int (zI a4))]) rfl ?_
    refine z_goto cx d_X12_copy_26 3 (by decide) ?_
    refine z_sub [1, 2, 3, 4, 0] rfl ?_
    exact hrec_3 _ _ h
def zrM_undo : Room := { frames := 1, cells := 0, slots := 0, locals := 24 }
set_option maxHeartbeats 4000000 in
theorem tM_undo {l : Launch} {g : ZG} {M : ZB}  {r : Int × ZB} (h : fM_undo M = some r) : zMi l yX12_undo cX12_undo 1 (some .int) zrM_undo g [.ref (g.2.2 0)] (wM g M) (wM g r.2) (zI r.1) := by
  unfold fM_undo at h
  refine zMi_q (own := RX12) rfl (by decide +kernel) (Nat.le_of_ble_eq_true rfl) (lv := [(0, .ref (g.2.2 0))]) rfl ⟨rfl, rfl⟩ ?_
  intro p e s m args below meth c A Q hQ cx
  refine z_aload_n cx d_X12_undo_0 1 rfl rfl 0 rfl ?_
  refine y_iconst cx d_X12_undo_1 2 rfl ?_
  refine y_put cx d_X12_undo_2 5 rfl e_M rfl zX12 tyX12_ok nmX12 0 (by decide) q_1361 rfl rfl rfl rfl (Nat.le_of_ble_eq_true rfl) h (fun _ h9 => s_M_0 h9) (fun M_1 h => ?_)
  refine z_aload_n cx d_X12_undo_5 6 rfl rfl 0 rfl ?_
  refine z_get cx d_X12_undo_6 9 rfl e_M rfl zX12 20 (by decide) q_1381 rfl rfl ?_
  refine y_if_ne cx d_X12_undo_9 12 rfl 14 (by decide) rfl h (fun h => ?_) (fun h => ?_)
  · refine z_aload_n cx d_X12_undo_14 15 rfl rfl 0 rfl ?_
    refine z_dup cx d_X12_undo_15 16 rfl rfl ?_
    refine z_get cx d_X12_undo_16 19 rfl e_M rfl zX12 20 (by decide) q_1381 rfl rfl ?_
    refine y_iconst cx d_X12_undo_19 20 rfl ?_
    refine y_isub cx d_X12_undo_20 21 rfl ?_
    refine y_put cx d_X12_undo_21 24 rfl e_M rfl zX12 tyX12_ok nmX12 20 (by decide) q_1381 rfl rfl rfl rfl (Nat.le_of_ble_eq_true rfl) h (fun _ h9 => s_M_20 h9) (fun M_2 h => ?_)
    refine z_aload_n cx d_X12_undo_24 25 rfl rfl 0 rfl ?_
    refine z_get cx d_X12_undo_25 28 rfl e_M rfl zX12 15 (by decide) q_1376 rfl rfl ?_
    refine y_sipush cx d_X12_undo_28 31 rfl (by decide) ?_
    refine z_aload_n cx d_X12_undo_31 32 rfl rfl 0 rfl ?_
    refine z_get cx d_X12_undo_32 35 rfl e_M rfl zX12 20 (by decide) q_1381 rfl rfl ?_
    refine y_imul cx d_X12_undo_35 36 rfl ?_
    refine z_aload_n cx d_X12_undo_36 37 rfl rfl 0 rfl ?_
    refine z_get cx d_X12_undo_37 40 rfl e_M rfl zX12 12 (by decide) q_1373 rfl rfl ?_
    refine y_iconst cx d_X12_undo_40 41 rfl ?_
    refine y_callS_v (As := [.ref (g.2.2 5), .int (zI (147 * (M_2.1 20))), .ref (g.2.2 2), .int (zI 0)]) (rest := []) (W := fun u_3 => wM g u_3) (rm := zr0) cx (fun _ hq => tM_copy_snaps_now hq) d_X12_undo_41 44 rfl kk_X12_copy q_1563 q_1564 ⟨rfl, rfl⟩ ⟨Nat.le_of_ble_eq_true rfl, Nat.le_of_ble_eq_true rfl⟩ rfl rfl (Nat.le_of_ble_eq_true rfl) ⟨Nat.zero_le _, Nat.zero_le _⟩ h (fun u_3 h => ?_)
    refine z_aload_n cx d_X12_undo_44 45 rfl rfl 0 rfl ?_
    refine z_get cx d_X12_undo_45 48 rfl e_M rfl zX12 20 (by decide) q_1381 rfl rfl ?_
    subst hQ
    obtain rfl := Option.some.inj h
    exact z_iret cx d_X12_undo_48 rfl rfl
  · refine y_iconst cx d_X12_undo_12 13 rfl ?_
    subst hQ
    obtain rfl := Option.some.inj h
    exact z_iret cx d_X12_undo_13 rfl rfl
def zrM_isCount : Room := { frames := 1, cells := 0, slots := 0, locals := 22 }
set_option maxHeartbeats 4000000 in
theorem tM_isCount {l : Launch} {g : ZG} {w : va_W} {a1 : Int} {r : Int} (h : fM_isCount a1 = some r) : zMi l yX12_isCount cX12_isCount 1 (some .boolean) zrM_isCount g [.int (zI a1)] (w) (w) (zI r) := by
  unfold fM_isCount at h
  refine zMi_q (own := RX12) rfl (by decide +kernel) (Nat.le_of_ble_eq_true rfl) (lv := [(0, .int (zI a1))]) rfl ⟨rfl, rfl⟩ ?_
  intro p e s m args below meth c A Q hQ cx
  refine z_iload_n cx d_X12_isCount_0 1 rfl rfl 0 rfl ?_
  refine y_iconst cx d_X12_isCount_1 2 rfl ?_
  refine y_bipush cx d_X12_isCount_2 4 rfl (by decide) ?_
  refine y_callS_i (As := [.int (zI a1), .int (zI 0), .int (zI 24)]) (rest := []) (W := fun u_1 => w) (rf := fun u_1 => zI u_1) (rm := zr0) cx (fun _ hq => tM_isIn hq) d_X12_isCount_4 7 rfl kk_X12_isIn q_1552 q_1553 ⟨rfl, rfl⟩ ⟨Nat.le_of_ble_eq_true rfl, Nat.le_of_ble_eq_true rfl⟩ rfl rfl (Nat.le_of_ble_eq_true rfl) ⟨Nat.zero_le _, Nat.zero_le _⟩ h (fun u_1 h => ?_)
  obtain ⟨hz, h⟩ := zo_i h
  subst hQ
  obtain rfl := Option.some.inj h
  exact z_zret cx d_X12_isCount_7 (zb01 hz) rfl rfl
def zrM_inner : Room := { frames := 1, cells := 0, slots := 0, locals := 21 }
set_option maxHeartbeats 4000000 in
theorem tM_inner {l : Launch} {g : ZG} {M : ZB} {a1 : Int} {a2 : Int} {r : Int} (h : fM_inner M a1 a2 = some r) : zMi l yX12_inner cX12_inner 5 (some .int) zrM_inner g [.ref (g.2.2 0), .int (zI a1), .int (zI a2)] (wM g M) (wM g M) (zI r) := by
  unfold fM_inner at h
  refine zMi_q (own := RX12) rfl (by decide +kernel) (Nat.le_of_ble_eq_true rfl) (lv := [(0, .ref (g.2.2 0)), (1, .int (zI a1)), (2, .int (zI a2))]) rfl ⟨rfl, rfl⟩ ?_
  intro p e s m args below meth c A Q hQ cx
  refine y_iconst cx d_X12_inner_0 1 rfl ?_
  refine y_istore_n cx d_X12_inner_1 2 rfl rfl (by decide) (lv' := [(3, .int (zI 0)), (0, .ref (g.2.2 0)), (1, .int (zI a1)), (2, .int (zI a2))]) rfl ?_
  refine y_iconst cx d_X12_inner_2 3 rfl ?_
  refine y_istore cx d_X12_inner_3 5 rfl (by decide) (lv' := [(4, .int (zI 0)), (3, .int (zI 0)), (0, .ref (g.2.2 0)), (1, .int (zI a1)), (2, .int (zI a2))]) rfl ?_
  refine z_sub [2, 3, 4, 1, 0] rfl ?_
  refine lop2_f (P := fun (v3_1 : Int) (v4_2 : Int) => V p l e zrM_inner s m args below meth c A s.heap g 5 Q (wM g M) 0 0 [(0, .ref (g.2.2 0)), (1, .int (zI a1)), (2, .int (zI a2)), (3, .int (zI v3_1)), (4, .int (zI v4_2))] 5 []) (fun rec_3 hrec_3 v3_1 v4_2 h => ?_) _ _ _ h
  refine z_iload cx d_X12_inner_5 7 rfl 4 rfl ?_
  refine z_aload_n cx d_X12_inner_7 8 rfl rfl 0 rfl ?_
  refine y_callV_i (As := []) (rest := [.int (zI v4_2)]) (W := fun u_4 => wM g M) (rf := fun u_4 => zI u_4) (rm := zr0) cx (fun _ hq => tM_lines hq) d_X12_inner_8 11 rfl kk_X12_lines q_1582 q_1584 q_63 rfl e_M rfl ⟨rfl, rfl⟩ ⟨Nat.le_of_ble_eq_true rfl, Nat.le_of_ble_eq_true rfl⟩ rfl rfl (Nat.le_of_ble_eq_true rfl) ⟨Nat.zero_le _, Nat.zero_le _⟩ h (fun u_4 h => ?_)
  refine y_icmp_ge cx d_X12_inner_11 14 rfl 45 (by decide) rfl rfl h (fun h => ?_) (fun h => ?_)
  · refine z_iload_n cx d_X12_inner_45 46 rfl rfl 3 rfl ?_
    subst hQ
    obtain rfl := Option.some.inj h
    exact z_iret cx d_X12_inner_46 rfl rfl
  · refine z_iload_n cx d_X12_inner_14 15 rfl rfl 2 rfl ?_
    refine z_iload cx d_X12_inner_15 17 rfl 4 rfl ?_
    refine y_callS_i (As := [.int (zI a2), .int (zI v4_2)]) (rest := []) (W := fun u_5 => wM g M) (rf := fun u_5 => zI u_5) (rm := zr0) cx (fun _ hq => tM_has hq) d_X12_inner_17 20 rfl kk_X12_has q_1626 q_1627 ⟨rfl, rfl⟩ ⟨Nat.le_of_ble_eq_true rfl, Nat.le_of_ble_eq_true rfl⟩ rfl rfl (Nat.le_of_ble_eq_true rfl) ⟨Nat.zero_le _, Nat.zero_le _⟩ h (fun u_5 h => ?_)
    refine kf1_f (P := fun (v3_6 : Int) => V p l e zrM_inner s m args below meth c A s.heap g 5 Q (wM g M) 0 0 [(0, .ref (g.2.2 0)), (1, .int (zI a1)), (2, .int (zI a2)), (3, .int (zI v3_6)), (4, .int (zI v4_2))] 39 []) h (fun v3_6 h => ?_) (fun k_7 hk_7 h => ?_)
    · refine y_iinc cx 4 d_X12_inner_39 42 rfl rfl (by decide) (lv' := [(4, .int (zI (v4_2 + 1))), (0, .ref (g.2.2 0)), (1, .int (zI a1)), (2, .int (zI a2)), (3, .int (zI v3_6))]) rfl ?_
      refine z_goto cx d_X12_inner_42 5 (by decide) ?_
      refine z_sub [1, 2, 3, 4, 0] rfl ?_
      exact hrec_3 _ _ h
    refine y_if_eq cx d_X12_inner_20 23 rfl 39 (by decide) rfl h (fun h => ?_) (fun h => ?_)
    · exact hk_7 _ h
    · refine z_aload_n cx d_X12_inner_23 24 rfl rfl 0 rfl ?_
      refine z_iload cx d_X12_inner_24 26 rfl 4 rfl ?_
      refine y_callV_i (As := [.int (zI v4_2)]) (rest := []) (W := fun u_8 => wM g M) (rf := fun u_8 => zI u_8) (rm := zr0) cx (fun _ hq => tM_ends hq) d_X12_inner_26 29 rfl kk_X12_ends q_1629 q_1631 q_72 rfl e_M rfl ⟨rfl, rfl⟩ ⟨Nat.le_of_ble_eq_true rfl, Nat.le_of_ble_eq_true rfl⟩ rfl rfl (Nat.le_of_ble_eq_true rfl) ⟨Nat.zero_le _, Nat.zero_le _⟩ h (fun u_8 h => ?_)
      refine z_iload_n cx d_X12_inner_29 30 rfl rfl 1 rfl ?_
      refine y_iconst cx d_X12_inner_30 31 rfl ?_
      refine y_ixor cx d_X12_inner_31 32 rfl ?_
      refine y_iand cx d_X12_inner_32 33 rfl ?_
      refine y_if_ne cx d_X12_inner_33 36 rfl 39 (by decide) (nm_zand _ _) h (fun h => ?_) (fun h => ?_)
      · exact hk_7 _ h
      · refine y_iinc cx 3 d_X12_inner_36 39 rfl rfl (by decide) (lv' := [(3, .int (zI (v3_1 + 1))), (0, .ref (g.2.2 0)), (1, .int (zI a1)), (2, .int (zI a2)), (4, .int (zI v4_2))]) rfl ?_
        refine z_sub [1, 2, 3, 0, 4] rfl ?_
        exact hk_7 _ h
def zrM_canJoin : Room := { frames := 2, cells := 0, slots := 0, locals := 45 }
set_option maxHeartbeats 4000000 in
theorem tM_canJoin {l : Launch} {g : ZG} {M : ZB} {a1 : Int} {a2 : Int} {a3 : Int} {r : Int} (h : fM_canJoin M a1 a2 a3 = some r) : zMi l yX12_canJoin cX12_canJoin 5 (some .boolean) zrM_canJoin g [.ref (g.2.2 0), .int (zI a1), .int (zI a2), .int (zI a3)] (wM g M) (wM g M) (zI r) := by
  unfold fM_canJoin at h
  refine zMi_q (own := RX12) rfl (by decide +kernel) (Nat.le_of_ble_eq_true rfl) (lv := [(0, .ref (g.2.2 0)), (1, .int (zI a1)), (2, .int (zI a2)), (3, .int (zI a3))]) rfl ⟨rfl, rfl⟩ ?_
  intro p e s m args below meth c A Q hQ cx
  refine y_iconst cx d_X12_canJoin_0 1 rfl ?_
  refine y_istore cx d_X12_canJoin_1 3 rfl (by decide) (lv' := [(4, .int (zI 1)), (0, .ref (g.2.2 0)), (1, .int (zI a1)), (2, .int (zI a2)), (3, .int (zI a3))]) rfl ?_
  refine z_sub [1, 2, 3, 4, 0] rfl ?_
  refine lop1_f (P := fun (v4_1 : Int) => V p l e zrM_canJoin s m args below meth c A s.heap g 5 Q (wM g M) 0 0 [(0, .ref (g.2.2 0)), (1, .int (zI a1)), (2, .int (zI a2)), (3, .int (zI a3)), (4, .int (zI v4_1))] 3 []) (fun rec_2 hrec_2 v4_1 h => ?_) _ _ h
  refine z_iload cx d_X12_canJoin_3 5 rfl 4 rfl ?_
  refine y_iconst cx d_X12_canJoin_5 6 rfl ?_
  refine z_aload_n cx d_X12_canJoin_6 7 rfl rfl 0 rfl ?_
  refine y_callV_i (As := []) (rest := [.int (zI 1), .int (zI v4_1)]) (W := fun u_3 => wM g M) (rf := fun u_3 => zI u_3) (rm := zr0) cx (fun _ hq => tM_points hq) d_X12_canJoin_7 10 rfl kk_X12_points q_1641 q_1643 q_73 rfl e_M rfl ⟨rfl, rfl⟩ ⟨Nat.le_of_ble_eq_true rfl, Nat.le_of_ble_eq_true rfl⟩ rfl rfl (Nat.le_of_ble_eq_true rfl) ⟨Nat.zero_le _, Nat.zero_le _⟩ h (fun u_3 h => ?_)
  refine y_ishl cx d_X12_canJoin_10 11 rfl ?_
  refine y_icmp_ge cx d_X12_canJoin_11 14 rfl 58 (by decide) rfl (nm_zshl _ _) h (fun h => ?_) (fun h => ?_)
  · refine y_iconst cx d_X12_canJoin_58 59 rfl ?_
    subst hQ
    obtain rfl := Option.some.inj h
    exact z_zret cx d_X12_canJoin_59 (zb01 (by decide)) rfl rfl
  · refine z_aload_n cx d_X12_canJoin_14 15 rfl rfl 0 rfl ?_
    refine z_iload_n cx d_X12_canJoin_15 16 rfl rfl 1 rfl ?_
    refine y_callV_i (As := [.int (zI a1)]) (rest := []) (W := fun u_4 => wM g M) (rf := fun u_4 => zI u_4) (rm := zr0) cx (fun _ hq => tM_ends hq) d_X12_canJoin_16 19 rfl kk_X12_ends q_1629 q_1631 q_72 rfl e_M rfl ⟨rfl, rfl⟩ ⟨Nat.le_of_ble_eq_true rfl, Nat.le_of_ble_eq_true rfl⟩ rfl rfl (Nat.le_of_ble_eq_true rfl) ⟨Nat.zero_le _, Nat.zero_le _⟩ h (fun u_4 h => ?_)
    refine z_iload cx d_X12_canJoin_19 21 rfl 4 rfl ?_
    refine y_iconst cx d_X12_canJoin_21 22 rfl ?_
    refine y_ixor cx d_X12_canJoin_22 23 rfl ?_
    refine y_iand cx d_X12_canJoin_23 24 rfl ?_
    refine kf0_f (P := V p l e zrM_canJoin s m args below meth c A s.heap g 5 Q (wM g M) 0 0 [(0, .ref (g.2.2 0)), (1, .int (zI a1)), (2, .int (zI a2)), (3, .int (zI a3)), (4, .int (zI v4_1))] 52 []) h (fun h => ?_) (fun k_5 hk_5 h => ?_)
    · refine y_iinc cx 4 d_X12_canJoin_52 55 rfl rfl (by decide) (lv' := [(4, .int (zI (v4_1 + 1))), (0, .ref (g.2.2 0)), (1, .int (zI a1)), (2, .int (zI a2)), (3, .int (zI a3))]) rfl ?_
      refine z_goto cx d_X12_canJoin_55 3 (by decide) ?_
      refine z_sub [1, 2, 3, 4, 0] rfl ?_
      exact hrec_2 _ h
    refine y_if_ne cx d_X12_canJoin_24 27 rfl 52 (by decide) (nm_zand _ _) h (fun h => ?_) (fun h => ?_)
    · exact hk_5  h
    · refine z_aload_n cx d_X12_canJoin_27 28 rfl rfl 0 rfl ?_
      refine z_iload cx d_X12_canJoin_28 30 rfl 4 rfl ?_
      refine z_iload_n cx d_X12_canJoin_30 31 rfl rfl 2 rfl ?_
      refine y_iconst cx d_X12_canJoin_31 32 rfl ?_
      refine z_iload_n cx d_X12_canJoin_32 33 rfl rfl 1 rfl ?_
      refine y_ishl cx d_X12_canJoin_33 34 rfl ?_
      refine y_ior cx d_X12_canJoin_34 35 rfl ?_
      refine y_callV_i (As := [.int (zI v4_1), .int (zI (zor a2 (zshl 1 a1)))]) (rest := []) (W := fun u_6 => wM g M) (rf := fun u_6 => zI u_6) (rm := zrM_inner) cx (fun _ hq => tM_inner hq) d_X12_canJoin_35 38 rfl kk_X12_inner q_1823 q_1825 q_99 rfl e_M rfl ⟨rfl, rfl⟩ ⟨Nat.le_of_ble_eq_true rfl, Nat.le_of_ble_eq_true rfl⟩ rfl rfl (Nat.le_of_ble_eq_true rfl) ⟨Nat.zero_le _, Nat.zero_le _⟩ h (fun u_6 h => ?_)
      refine z_iload_n cx d_X12_canJoin_38 39 rfl rfl 3 rfl ?_
      refine z_iload cx d_X12_canJoin_39 41 rfl 4 rfl ?_
      refine y_callS_i (As := [.int (zI v4_1)]) (rest := [.int (zI a3), .int (zI u_6)]) (W := fun u_7 => wM g M) (rf := fun u_7 => zI u_7) (rm := zr0) cx (fun _ hq => tM_bits hq) d_X12_canJoin_41 44 rfl kk_X12_bits q_1649 q_1650 ⟨rfl, rfl⟩ ⟨Nat.le_of_ble_eq_true rfl, Nat.le_of_ble_eq_true rfl⟩ rfl rfl (Nat.le_of_ble_eq_true rfl) ⟨Nat.zero_le _, Nat.zero_le _⟩ h (fun u_7 h => ?_)
      refine y_iconst cx d_X12_canJoin_44 45 rfl ?_
      refine y_isub cx d_X12_canJoin_45 46 rfl ?_
      refine y_imul cx d_X12_canJoin_46 47 rfl ?_
      refine y_icmp_le cx d_X12_canJoin_47 50 rfl 52 (by decide) rfl rfl h (fun h => ?_) (fun h => ?_)
      · exact hk_5  h
      · refine y_iconst cx d_X12_canJoin_50 51 rfl ?_
        subst hQ
        obtain rfl := Option.some.inj h
        exact z_zret cx d_X12_canJoin_51 (zb01 (by decide)) rfl rfl
def zrM_chosen : Room := { frames := 3, cells := 0, slots := 0, locals := 69 }
set_option maxHeartbeats 4000000 in
theorem tM_chosen {l : Launch} {g : ZG} {M : ZB} {a1 : Int} {a2 : Int} {r : Int} (h : fM_chosen M a1 a2 = some r) : zMi l yX12_chosen cX12_chosen 5 (some .int) zrM_chosen g [.ref (g.2.2 0), .int (zI a1), .int (zI a2)] (wM g M) (wM g M) (zI r) := by
  unfold fM_chosen at h
  refine zMi_q (own := RX12) rfl (by decide +kernel) (Nat.le_of_ble_eq_true rfl) (lv := [(0, .ref (g.2.2 0)), (1, .int (zI a1)), (2, .int (zI a2))]) rfl ⟨rfl, rfl⟩ ?_
  intro p e s m args below meth c A Q hQ cx
  refine y_iconst cx d_X12_chosen_0 1 rfl ?_
  refine y_istore_n cx d_X12_chosen_1 2 rfl rfl (by decide) (lv' := [(3, .int (zI 0)), (0, .ref (g.2.2 0)), (1, .int (zI a1)), (2, .int (zI a2))]) rfl ?_
  refine y_iconst cx d_X12_chosen_2 3 rfl ?_
  refine y_istore cx d_X12_chosen_3 5 rfl (by decide) (lv' := [(4, .int (zI 0)), (3, .int (zI 0)), (0, .ref (g.2.2 0)), (1, .int (zI a1)), (2, .int (zI a2))]) rfl ?_
  refine z_sub [2, 3, 4, 1, 0] rfl ?_
  refine lop2_f (P := fun (v3_1 : Int) (v4_2 : Int) => V p l e zrM_chosen s m args below meth c A s.heap g 5 Q (wM g M) 0 0 [(0, .ref (g.2.2 0)), (1, .int (zI a1)), (2, .int (zI a2)), (3, .int (zI v3_1)), (4, .int (zI v4_2))] 5 []) (fun rec_3 hrec_3 v3_1 v4_2 h => ?_) _ _ _ h
  refine z_iload cx d_X12_chosen_5 7 rfl 4 rfl ?_
  refine z_aload_n cx d_X12_chosen_7 8 rfl rfl 0 rfl ?_
  refine y_callV_i (As := []) (rest := [.int (zI v4_2)]) (W := fun u_4 => wM g M) (rf := fun u_4 => zI u_4) (rm := zr0) cx (fun _ hq => tM_lines hq) d_X12_chosen_8 11 rfl kk_X12_lines q_1582 q_1584 q_63 rfl e_M rfl ⟨rfl, rfl⟩ ⟨Nat.le_of_ble_eq_true rfl, Nat.le_of_ble_eq_true rfl⟩ rfl rfl (Nat.le_of_ble_eq_true rfl) ⟨Nat.zero_le _, Nat.zero_le _⟩ h (fun u_4 h => ?_)
  refine y_icmp_ge cx d_X12_chosen_11 14 rfl 47 (by decide) rfl rfl h (fun h => ?_) (fun h => ?_)
  · refine z_iload_n cx d_X12_chosen_47 48 rfl rfl 3 rfl ?_
    subst hQ
    obtain rfl := Option.some.inj h
    exact z_iret cx d_X12_chosen_48 rfl rfl
  · refine z_iload_n cx d_X12_chosen_14 15 rfl rfl 1 rfl ?_
    refine z_iload cx d_X12_chosen_15 17 rfl 4 rfl ?_
    refine y_callS_i (As := [.int (zI a1), .int (zI v4_2)]) (rest := []) (W := fun u_5 => wM g M) (rf := fun u_5 => zI u_5) (rm := zr0) cx (fun _ hq => tM_has hq) d_X12_chosen_17 20 rfl kk_X12_has q_1626 q_1627 ⟨rfl, rfl⟩ ⟨Nat.le_of_ble_eq_true rfl, Nat.le_of_ble_eq_true rfl⟩ rfl rfl (Nat.le_of_ble_eq_true rfl) ⟨Nat.zero_le _, Nat.zero_le _⟩ h (fun u_5 h => ?_)
    refine kf1_f (P := fun (v3_6 : Int) => V p l e zrM_chosen s m args below meth c A s.heap g 5 Q (wM g M) 0 0 [(0, .ref (g.2.2 0)), (1, .int (zI a1)), (2, .int (zI a2)), (3, .int (zI v3_6)), (4, .int (zI v4_2))] 41 []) h (fun v3_6 h => ?_) (fun k_7 hk_7 h => ?_)
    · refine y_iinc cx 4 d_X12_chosen_41 44 rfl rfl (by decide) (lv' := [(4, .int (zI (v4_2 + 1))), (0, .ref (g.2.2 0)), (1, .int (zI a1)), (2, .int (zI a2)), (3, .int (zI v3_6))]) rfl ?_
      refine z_goto cx d_X12_chosen_44 5 (by decide) ?_
      refine z_sub [1, 2, 3, 4, 0] rfl ?_
      exact hrec_3 _ _ h
    refine y_if_eq cx d_X12_chosen_20 23 rfl 41 (by decide) rfl h (fun h => ?_) (fun h => ?_)
    · exact hk_7 _ h
    · refine z_aload_n cx d_X12_chosen_23 24 rfl rfl 0 rfl ?_
      refine z_iload cx d_X12_chosen_24 26 rfl 4 rfl ?_
      refine z_iload_n cx d_X12_chosen_26 27 rfl rfl 3 rfl ?_
      refine z_iload_n cx d_X12_chosen_27 28 rfl rfl 2 rfl ?_
      refine y_callV_i (As := [.int (zI v4_2), .int (zI v3_1), .int (zI a2)]) (rest := []) (W := fun u_8 => wM g M) (rf := fun u_8 => zI u_8) (rm := zrM_canJoin) cx (fun _ hq => tM_canJoin hq) d_X12_chosen_28 31 rfl kk_X12_canJoin q_1819 q_1821 q_98 rfl e_M rfl ⟨rfl, rfl⟩ ⟨Nat.le_of_ble_eq_true rfl, Nat.le_of_ble_eq_true rfl⟩ rfl rfl (Nat.le_of_ble_eq_true rfl) ⟨Nat.zero_le _, Nat.zero_le _⟩ h (fun u_8 h => ?_)
      refine y_if_eq cx d_X12_chosen_31 34 rfl 41 (by decide) rfl h (fun h => ?_) (fun h => ?_)
      · exact hk_7 _ h
      · refine z_iload_n cx d_X12_chosen_34 35 rfl rfl 3 rfl ?_
        refine y_iconst cx d_X12_chosen_35 36 rfl ?_
        refine z_iload cx d_X12_chosen_36 38 rfl 4 rfl ?_
        refine y_ishl cx d_X12_chosen_38 39 rfl ?_
        refine y_ior cx d_X12_chosen_39 40 rfl ?_
        refine y_istore_n_b cx d_X12_chosen_40 41 rfl rfl (by decide) (fun y => [(3, .int (zI y)), (0, .ref (g.2.2 0)), (1, .int (zI a1)), (2, .int (zI a2)), (4, .int (zI v4_2))]) (fun y => rfl) h (fun v3_9 h => ?_)
        refine z_sub [1, 2, 3, 0, 4] rfl ?_
        exact hk_7 _ h
def zrM_most : Room := { frames := 4, cells := 0, slots := 0, locals := 93 }
set_option maxHeartbeats 4000000 in
theorem tM_most {l : Launch} {g : ZG} {M : ZB} {a1 : Int} {r : Int × ZB} (h : fM_most M a1 = some r) : zMi l yX12_most cX12_most 2 (some .int) zrM_most g [.ref (g.2.2 0), .int (zI a1)] (wM g M) (wM g r.2) (zI r.1) := by
  unfold fM_most at h
  refine zMi_q (own := RX12) rfl (by decide +kernel) (Nat.le_of_ble_eq_true rfl) (lv := [(0, .ref (g.2.2 0)), (1, .int (zI a1))]) rfl ⟨rfl, rfl⟩ ?_
  intro p e s m args below meth c A Q hQ cx
  refine z_aload_n cx d_X12_most_0 1 rfl rfl 0 rfl ?_
  refine y_iconst cx d_X12_most_1 2 rfl ?_
  refine y_put cx d_X12_most_2 5 rfl e_M rfl zX12 tyX12_ok nmX12 0 (by decide) q_1361 rfl rfl rfl rfl (Nat.le_of_ble_eq_true rfl) h (fun _ h9 => s_M_0 h9) (fun M_1 h => ?_)
  refine z_iload_n cx d_X12_most_5 6 rfl rfl 1 rfl ?_
  refine y_callS_i (As := [.int (zI a1)]) (rest := []) (W := fun u_2 => wM g M_1) (rf := fun u_2 => zI u_2) (rm := zrM_isCount) cx (fun _ hq => tM_isCount hq) d_X12_most_6 9 rfl kk_X12_isCount q_1812 q_1813 ⟨rfl, rfl⟩ ⟨Nat.le_of_ble_eq_true rfl, Nat.le_of_ble_eq_true rfl⟩ rfl rfl (Nat.le_of_ble_eq_true rfl) ⟨Nat.zero_le _, Nat.zero_le _⟩ h (fun u_2 h => ?_)
  refine kf1_f (P := fun (w0_3 : Int) => V p l e zrM_most s m args below meth c A s.heap g 2 Q (wM g M_1) 0 0 [] 28 [.int (zI w0_3)]) h (fun w0_3 h => ?_) (fun k_4 hk_4 h => ?_)
  · subst hQ
    obtain rfl := Option.some.inj h
    exact z_iret cx d_X12_most_28 rfl rfl
  refine y_if_eq cx d_X12_most_9 12 rfl 27 (by decide) rfl h (fun h => ?_) (fun h => ?_)
  · refine y_iconst cx d_X12_most_27 28 rfl ?_
    refine z_sub [] rfl ?_
    exact hk_4 _ h
  · refine z_aload_n cx d_X12_most_12 13 rfl rfl 0 rfl ?_
    refine z_aload_n cx d_X12_most_13 14 rfl rfl 0 rfl ?_
    refine y_callV_i (As := []) (rest := [.ref (g.2.2 0)]) (W := fun u_5 => wM g M_1) (rf := fun u_5 => zI u_5) (rm := zrM_sound) cx (fun _ hq => tM_sound hq) d_X12_most_14 17 rfl kk_X12_sound q_1645 q_1647 q_74 rfl e_M rfl ⟨rfl, rfl⟩ ⟨Nat.le_of_ble_eq_true rfl, Nat.le_of_ble_eq_true rfl⟩ rfl rfl (Nat.le_of_ble_eq_true rfl) ⟨Nat.zero_le _, Nat.zero_le _⟩ h (fun u_5 h => ?_)
    refine z_iload_n cx d_X12_most_17 18 rfl rfl 1 rfl ?_
    refine y_callV_i (As := [.int (zI u_5), .int (zI a1)]) (rest := []) (W := fun u_6 => wM g M_1) (rf := fun u_6 => zI u_6) (rm := zrM_chosen) cx (fun _ hq => tM_chosen hq) d_X12_most_18 21 rfl kk_X12_chosen q_1815 q_1817 q_97 rfl e_M rfl ⟨rfl, rfl⟩ ⟨Nat.le_of_ble_eq_true rfl, Nat.le_of_ble_eq_true rfl⟩ rfl rfl (Nat.le_of_ble_eq_true rfl) ⟨Nat.zero_le _, Nat.zero_le _⟩ h (fun u_6 h => ?_)
    refine y_callS_i (As := [.int (zI u_6)]) (rest := []) (W := fun u_7 => wM g M_1) (rf := fun u_7 => zI u_7) (rm := zr0) cx (fun _ hq => tM_bits hq) d_X12_most_21 24 rfl kk_X12_bits q_1649 q_1650 ⟨rfl, rfl⟩ ⟨Nat.le_of_ble_eq_true rfl, Nat.le_of_ble_eq_true rfl⟩ rfl rfl (Nat.le_of_ble_eq_true rfl) ⟨Nat.zero_le _, Nat.zero_le _⟩ h (fun u_7 h => ?_)
    refine z_goto cx d_X12_most_24 28 (by decide) ?_
    refine z_sub [] rfl ?_
    exact hk_4 _ h
def zrM_canLie : Room := { frames := 2, cells := 0, slots := 0, locals := 45 }
set_option maxHeartbeats 4000000 in
theorem tM_canLie {l : Launch} {g : ZG} {M : ZB} {a1 : Int} {a2 : Int} {r : Int} (h : fM_canLie M a1 a2 = some r) : zMi l yX12_canLie cX12_canLie 4 (some .boolean) zrM_canLie g [.ref (g.2.2 0), .int (zI a1), .int (zI a2)] (wM g M) (wM g M) (zI r) := by
  unfold fM_canLie at h
  refine zMi_q (own := RX12) rfl (by decide +kernel) (Nat.le_of_ble_eq_true rfl) (lv := [(0, .ref (g.2.2 0)), (1, .int (zI a1)), (2, .int (zI a2))]) rfl ⟨rfl, rfl⟩ ?_
  intro p e s m args below meth c A Q hQ cx
  refine y_iconst cx d_X12_canLie_0 1 rfl ?_
  refine y_istore_n cx d_X12_canLie_1 2 rfl rfl (by decide) (lv' := [(3, .int (zI 1)), (0, .ref (g.2.2 0)), (1, .int (zI a1)), (2, .int (zI a2))]) rfl ?_
  refine z_sub [1, 2, 3, 0] rfl ?_
  refine lop1_f (P := fun (v3_1 : Int) => V p l e zrM_canLie s m args below meth c A s.heap g 4 Q (wM g M) 0 0 [(0, .ref (g.2.2 0)), (1, .int (zI a1)), (2, .int (zI a2)), (3, .int (zI v3_1))] 2 []) (fun rec_2 hrec_2 v3_1 h => ?_) _ _ h
  refine z_iload_n cx d_X12_canLie_2 3 rfl rfl 3 rfl ?_
  refine y_iconst cx d_X12_canLie_3 4 rfl ?_
  refine z_aload_n cx d_X12_canLie_4 5 rfl rfl 0 rfl ?_
  refine y_callV_i (As := []) (rest := [.int (zI 1), .int (zI v3_1)]) (W := fun u_3 => wM g M) (rf := fun u_3 => zI u_3) (rm := zr0) cx (fun _ hq => tM_points hq) d_X12_canLie_5 8 rfl kk_X12_points q_1641 q_1643 q_73 rfl e_M rfl ⟨rfl, rfl⟩ ⟨Nat.le_of_ble_eq_true rfl, Nat.le_of_ble_eq_true rfl⟩ rfl rfl (Nat.le_of_ble_eq_true rfl) ⟨Nat.zero_le _, Nat.zero_le _⟩ h (fun u_3 h => ?_)
  refine y_ishl cx d_X12_canLie_8 9 rfl ?_
  refine y_icmp_ge cx d_X12_canLie_9 12 rfl 37 (by decide) rfl (nm_zshl _ _) h (fun h => ?_) (fun h => ?_)
  · refine y_iconst cx d_X12_canLie_37 38 rfl ?_
    subst hQ
    obtain rfl := Option.some.inj h
    exact z_zret cx d_X12_canLie_38 (zb01 (by decide)) rfl rfl
  · refine z_aload_n cx d_X12_canLie_12 13 rfl rfl 0 rfl ?_
    refine z_iload_n cx d_X12_canLie_13 14 rfl rfl 3 rfl ?_
    refine z_iload_n cx d_X12_canLie_14 15 rfl rfl 1 rfl ?_
    refine y_callV_i (As := [.int (zI v3_1), .int (zI a1)]) (rest := []) (W := fun u_4 => wM g M) (rf := fun u_4 => zI u_4) (rm := zrM_inner) cx (fun _ hq => tM_inner hq) d_X12_canLie_15 18 rfl kk_X12_inner q_1823 q_1825 q_99 rfl e_M rfl ⟨rfl, rfl⟩ ⟨Nat.le_of_ble_eq_true rfl, Nat.le_of_ble_eq_true rfl⟩ rfl rfl (Nat.le_of_ble_eq_true rfl) ⟨Nat.zero_le _, Nat.zero_le _⟩ h (fun u_4 h => ?_)
    refine z_iload_n cx d_X12_canLie_18 19 rfl rfl 2 rfl ?_
    refine z_iload_n cx d_X12_canLie_19 20 rfl rfl 3 rfl ?_
    refine y_callS_i (As := [.int (zI v3_1)]) (rest := [.int (zI a2), .int (zI u_4)]) (W := fun u_5 => wM g M) (rf := fun u_5 => zI u_5) (rm := zr0) cx (fun _ hq => tM_bits hq) d_X12_canLie_20 23 rfl kk_X12_bits q_1649 q_1650 ⟨rfl, rfl⟩ ⟨Nat.le_of_ble_eq_true rfl, Nat.le_of_ble_eq_true rfl⟩ rfl rfl (Nat.le_of_ble_eq_true rfl) ⟨Nat.zero_le _, Nat.zero_le _⟩ h (fun u_5 h => ?_)
    refine y_iconst cx d_X12_canLie_23 24 rfl ?_
    refine y_isub cx d_X12_canLie_24 25 rfl ?_
    refine y_imul cx d_X12_canLie_25 26 rfl ?_
    refine y_icmp_le cx d_X12_canLie_26 29 rfl 31 (by decide) rfl rfl h (fun h => ?_) (fun h => ?_)
    · refine y_iinc cx 3 d_X12_canLie_31 34 rfl rfl (by decide) (lv' := [(3, .int (zI (v3_1 + 1))), (0, .ref (g.2.2 0)), (1, .int (zI a1)), (2, .int (zI a2))]) rfl ?_
      refine z_goto cx d_X12_canLie_34 2 (by decide) ?_
      refine z_sub [1, 2, 3, 0] rfl ?_
      exact hrec_2 _ h
    · refine y_iconst cx d_X12_canLie_29 30 rfl ?_
      subst hQ
      obtain rfl := Option.some.inj h
      exact z_zret cx d_X12_canLie_30 (zb01 (by decide)) rfl rfl
def zrM_fewest : Room := { frames := 3, cells := 0, slots := 0, locals := 68 }
set_option maxHeartbeats 4000000 in
theorem tM_fewest {l : Launch} {g : ZG} {M : ZB}  {r : Int × ZB} (h : fM_fewest M = some r) : zMi l yX12_fewest cX12_fewest 2 (some .int) zrM_fewest g [.ref (g.2.2 0)] (wM g M) (wM g r.2) (zI r.1) := by
  unfold fM_fewest at h
  refine zMi_q (own := RX12) rfl (by decide +kernel) (Nat.le_of_ble_eq_true rfl) (lv := [(0, .ref (g.2.2 0))]) rfl ⟨rfl, rfl⟩ ?_
  intro p e s m args below meth c A Q hQ cx
  refine z_aload_n cx d_X12_fewest_0 1 rfl rfl 0 rfl ?_
  refine y_iconst cx d_X12_fewest_1 2 rfl ?_
  refine y_put cx d_X12_fewest_2 5 rfl e_M rfl zX12 tyX12_ok nmX12 0 (by decide) q_1361 rfl rfl rfl rfl (Nat.le_of_ble_eq_true rfl) h (fun _ h9 => s_M_0 h9) (fun M_1 h => ?_)
  refine y_iconst cx d_X12_fewest_5 6 rfl ?_
  refine y_istore_n cx d_X12_fewest_6 7 rfl rfl (by decide) (lv' := [(1, .int (zI 0)), (0, .ref (g.2.2 0))]) rfl ?_
  refine z_sub [1, 0] rfl ?_
  refine lop1_f (P := fun (v1_2 : Int) => V p l e zrM_fewest s m args below meth c A s.heap g 2 Q (wM g M_1) 0 0 [(0, .ref (g.2.2 0)), (1, .int (zI v1_2))] 7 []) (fun rec_3 hrec_3 v1_2 h => ?_) _ _ h
  refine z_aload_n cx d_X12_fewest_7 8 rfl rfl 0 rfl ?_
  refine z_aload_n cx d_X12_fewest_8 9 rfl rfl 0 rfl ?_
  refine y_callV_i (As := []) (rest := [.ref (g.2.2 0)]) (W := fun u_4 => wM g M_1) (rf := fun u_4 => zI u_4) (rm := zrM_sound) cx (fun _ hq => tM_sound hq) d_X12_fewest_9 12 rfl kk_X12_sound q_1645 q_1647 q_74 rfl e_M rfl ⟨rfl, rfl⟩ ⟨Nat.le_of_ble_eq_true rfl, Nat.le_of_ble_eq_true rfl⟩ rfl rfl (Nat.le_of_ble_eq_true rfl) ⟨Nat.zero_le _, Nat.zero_le _⟩ h (fun u_4 h => ?_)
  refine z_iload_n cx d_X12_fewest_12 13 rfl rfl 1 rfl ?_
  refine y_callV_i (As := [.int (zI u_4), .int (zI v1_2)]) (rest := []) (W := fun u_5 => wM g M_1) (rf := fun u_5 => zI u_5) (rm := zrM_canLie) cx (fun _ hq => tM_canLie hq) d_X12_fewest_13 16 rfl kk_X12_canLie q_1831 q_1833 q_100 rfl e_M rfl ⟨rfl, rfl⟩ ⟨Nat.le_of_ble_eq_true rfl, Nat.le_of_ble_eq_true rfl⟩ rfl rfl (Nat.le_of_ble_eq_true rfl) ⟨Nat.zero_le _, Nat.zero_le _⟩ h (fun u_5 h => ?_)
  refine y_if_ne cx d_X12_fewest_16 19 rfl 25 (by decide) rfl h (fun h => ?_) (fun h => ?_)
  · refine z_iload_n cx d_X12_fewest_25 26 rfl rfl 1 rfl ?_
    subst hQ
    obtain rfl := Option.some.inj h
    exact z_iret cx d_X12_fewest_26 rfl rfl
  · refine y_iinc cx 1 d_X12_fewest_19 22 rfl rfl (by decide) (lv' := [(1, .int (zI (v1_2 + 1))), (0, .ref (g.2.2 0))]) rfl ?_
    refine z_goto cx d_X12_fewest_22 7 (by decide) ?_
    refine z_sub [1, 0] rfl ?_
    exact hrec_3 _ h
def zrM_trees : Room := { frames := 4, cells := 0, slots := 0, locals := 93 }
set_option maxHeartbeats 4000000 in
theorem tM_trees {l : Launch} {g : ZG} {M : ZB}  {r : Int × ZB} (h : fM_trees M = some r) : zMi l yX12_trees cX12_trees 2 (some .int) zrM_trees g [.ref (g.2.2 0)] (wM g M) (wM g r.2) (zI r.1) := by
  unfold fM_trees at h
  refine zMi_q (own := RX12) rfl (by decide +kernel) (Nat.le_of_ble_eq_true rfl) (lv := [(0, .ref (g.2.2 0))]) rfl ⟨rfl, rfl⟩ ?_
  intro p e s m args below meth c A Q hQ cx
  refine z_aload_n cx d_X12_trees_0 1 rfl rfl 0 rfl ?_
  refine y_iconst cx d_X12_trees_1 2 rfl ?_
  refine y_put cx d_X12_trees_2 5 rfl e_M rfl zX12 tyX12_ok nmX12 0 (by decide) q_1361 rfl rfl rfl rfl (Nat.le_of_ble_eq_true rfl) h (fun _ h9 => s_M_0 h9) (fun M_1 h => ?_)
  refine z_aload_n cx d_X12_trees_5 6 rfl rfl 0 rfl ?_
  refine y_callV_i (As := []) (rest := []) (W := fun u_2 => wM g M_1) (rf := fun u_2 => zI u_2) (rm := zr0) cx (fun _ hq => tM_points hq) d_X12_trees_6 9 rfl kk_X12_points q_1641 q_1643 q_73 rfl e_M rfl ⟨rfl, rfl⟩ ⟨Nat.le_of_ble_eq_true rfl, Nat.le_of_ble_eq_true rfl⟩ rfl rfl (Nat.le_of_ble_eq_true rfl) ⟨Nat.zero_le _, Nat.zero_le _⟩ h (fun u_2 h => ?_)
  refine y_iconst cx d_X12_trees_9 10 rfl ?_
  refine y_icmp_ge cx d_X12_trees_10 13 rfl 15 (by decide) rfl (nm_eq (x := 2) (by decide) (by decide)) h (fun h => ?_) (fun h => ?_)
  · refine y_iconst cx d_X12_trees_15 16 rfl ?_
    refine y_istore_n cx d_X12_trees_16 17 rfl rfl (by decide) (lv' := [(1, .int (zI 0)), (0, .ref (g.2.2 0))]) rfl ?_
    refine z_sub [1, 0] rfl ?_
    refine lop1_f (P := fun (v1_3 : Int) => V p l e zrM_trees s m args below meth c A s.heap g 2 Q (wM g M_1) 0 0 [(0, .ref (g.2.2 0)), (1, .int (zI v1_3))] 17 []) (fun rec_4 hrec_4 v1_3 h => ?_) _ _ h
    refine z_aload_n cx d_X12_trees_17 18 rfl rfl 0 rfl ?_
    refine z_aload_n cx d_X12_trees_18 19 rfl rfl 0 rfl ?_
    refine y_callV_i (As := []) (rest := [.ref (g.2.2 0)]) (W := fun u_5 => wM g M_1) (rf := fun u_5 => zI u_5) (rm := zrM_sound) cx (fun _ hq => tM_sound hq) d_X12_trees_19 22 rfl kk_X12_sound q_1645 q_1647 q_74 rfl e_M rfl ⟨rfl, rfl⟩ ⟨Nat.le_of_ble_eq_true rfl, Nat.le_of_ble_eq_true rfl⟩ rfl rfl (Nat.le_of_ble_eq_true rfl) ⟨Nat.zero_le _, Nat.zero_le _⟩ h (fun u_5 h => ?_)
    refine z_iload_n cx d_X12_trees_22 23 rfl rfl 1 rfl ?_
    refine y_iconst cx d_X12_trees_23 24 rfl ?_
    refine y_iadd cx d_X12_trees_24 25 rfl ?_
    refine y_callV_i (As := [.int (zI u_5), .int (zI (v1_3 + 1))]) (rest := []) (W := fun u_6 => wM g M_1) (rf := fun u_6 => zI u_6) (rm := zrM_chosen) cx (fun _ hq => tM_chosen hq) d_X12_trees_25 28 rfl kk_X12_chosen q_1815 q_1817 q_97 rfl e_M rfl ⟨rfl, rfl⟩ ⟨Nat.le_of_ble_eq_true rfl, Nat.le_of_ble_eq_true rfl⟩ rfl rfl (Nat.le_of_ble_eq_true rfl) ⟨Nat.zero_le _, Nat.zero_le _⟩ h (fun u_6 h => ?_)
    refine y_callS_i (As := [.int (zI u_6)]) (rest := []) (W := fun u_7 => wM g M_1) (rf := fun u_7 => zI u_7) (rm := zr0) cx (fun _ hq => tM_bits hq) d_X12_trees_28 31 rfl kk_X12_bits q_1649 q_1650 ⟨rfl, rfl⟩ ⟨Nat.le_of_ble_eq_true rfl, Nat.le_of_ble_eq_true rfl⟩ rfl rfl (Nat.le_of_ble_eq_true rfl) ⟨Nat.zero_le _, Nat.zero_le _⟩ h (fun u_7 h => ?_)
    refine z_iload_n cx d_X12_trees_31 32 rfl rfl 1 rfl ?_
    refine y_iconst cx d_X12_trees_32 33 rfl ?_
    refine y_iadd cx d_X12_trees_33 34 rfl ?_
    refine z_aload_n cx d_X12_trees_34 35 rfl rfl 0 rfl ?_
    refine y_callV_i (As := []) (rest := [.int (zI (v1_3 + 1)), .int (zI u_7)]) (W := fun u_8 => wM g M_1) (rf := fun u_8 => zI u_8) (rm := zr0) cx (fun _ hq => tM_points hq) d_X12_trees_35 38 rfl kk_X12_points q_1641 q_1643 q_73 rfl e_M rfl ⟨rfl, rfl⟩ ⟨Nat.le_of_ble_eq_true rfl, Nat.le_of_ble_eq_true rfl⟩ rfl rfl (Nat.le_of_ble_eq_true rfl) ⟨Nat.zero_le _, Nat.zero_le _⟩ h (fun u_8 h => ?_)
    refine y_iconst cx d_X12_trees_38 39 rfl ?_
    refine y_isub cx d_X12_trees_39 40 rfl ?_
    refine y_imul cx d_X12_trees_40 41 rfl ?_
    refine y_icmp_ne cx d_X12_trees_41 44 rfl 50 (by decide) rfl rfl h (fun h => ?_) (fun h => ?_)
    · refine z_iload_n cx d_X12_trees_50 51 rfl rfl 1 rfl ?_
      subst hQ
      obtain rfl := Option.some.inj h
      exact z_iret cx d_X12_trees_51 rfl rfl
    · refine y_iinc cx 1 d_X12_trees_44 47 rfl rfl (by decide) (lv' := [(1, .int (zI (v1_3 + 1))), (0, .ref (g.2.2 0))]) rfl ?_
      refine z_goto cx d_X12_trees_47 17 (by decide) ?_
      refine z_sub [1, 0] rfl ?_
      exact hrec_4 _ h
  · refine y_iconst cx d_X12_trees_13 14 rfl ?_
    subst hQ
    obtain rfl := Option.some.inj h
    exact z_iret cx d_X12_trees_14 rfl rfl
set_option maxHeartbeats 4000000 in
theorem tM_standAlone {l : Launch} {g : ZG} {M : ZB}  {r : ZB} (h : fM_standAlone M = some r) : zMv l yX12_standAlone cX12_standAlone 2 none zr0 g [.ref (g.2.2 0)] (wM g M) (wM g r) := by
  unfold fM_standAlone at h
  refine zMv_q (own := RX12) rfl (by decide +kernel) (Nat.le_of_ble_eq_true rfl) (lv := [(0, .ref (g.2.2 0))]) rfl ⟨rfl, rfl⟩ ?_
  intro p e s m args below meth c A Q hQ cx
  refine y_iconst cx d_X12_standAlone_0 1 rfl ?_
  refine y_istore_n cx d_X12_standAlone_1 2 rfl rfl (by decide) (lv' := [(1, .int (zI 0)), (0, .ref (g.2.2 0))]) rfl ?_
  refine z_sub [1, 0] rfl ?_
  refine lop2_f (P := fun (v1_1 : Int) (M_2 : ZB) => V p l e zr0 s m args below meth c A s.heap g 2 Q (wM g M_2) 0 0 [(0, .ref (g.2.2 0)), (1, .int (zI v1_1))] 2 []) (fun rec_3 hrec_3 v1_1 M_2 h => ?_) _ _ _ h
  refine z_iload_n cx d_X12_standAlone_2 3 rfl rfl 1 rfl ?_
  refine y_bipush cx d_X12_standAlone_3 5 rfl (by decide) ?_
  refine y_icmp_ge cx d_X12_standAlone_5 8 rfl 21 (by decide) rfl (nm_eq (x := 10) (by decide) (by decide)) h (fun h => ?_) (fun h => ?_)
  · subst hQ
    obtain rfl := Option.some.inj h
    exact z_vret cx d_X12_standAlone_21 rfl
  · refine z_aload_n cx d_X12_standAlone_8 9 rfl rfl 0 rfl ?_
    refine z_get cx d_X12_standAlone_9 12 rfl e_M rfl zX12 35 (by decide) q_1396 rfl rfl ?_
    refine z_iload_n cx d_X12_standAlone_12 13 rfl rfl 1 rfl ?_
    refine z_iload_n cx d_X12_standAlone_13 14 rfl rfl 1 rfl ?_
    refine y_iast cx d_X12_standAlone_14 15 rfl e_M_standsFor (by decide) h (fun _ h9 => s_M_standsFor h9) (fun M_4 h => ?_)
    refine y_iinc cx 1 d_X12_standAlone_15 18 rfl rfl (by decide) (lv' := [(1, .int (zI (v1_1 + 1))), (0, .ref (g.2.2 0))]) rfl ?_
    refine z_goto cx d_X12_standAlone_18 2 (by decide) ?_
    refine z_sub [1, 0] rfl ?_
    exact hrec_3 _ _ h
def zrM_laysThick : Room := { frames := 1, cells := 0, slots := 0, locals := 22 }
set_option maxHeartbeats 4000000 in
theorem tM_laysThick {l : Launch} {g : ZG} {M : ZB} {a1 : Int} {a2 : Int} {r : ZB} (h : fM_laysThick M a1 a2 = some r) : zMv l yX12_laysThick cX12_laysThick 7 none zrM_laysThick g [.ref (g.2.2 0), .int (zI a1), .int (zI a2)] (wM g M) (wM g r) := by
  unfold fM_laysThick at h
  refine zMv_q (own := RX12) rfl (by decide +kernel) (Nat.le_of_ble_eq_true rfl) (lv := [(0, .ref (g.2.2 0)), (1, .int (zI a1)), (2, .int (zI a2))]) rfl ⟨rfl, rfl⟩ ?_
  intro p e s m args below meth c A Q hQ cx
  refine z_aload_n cx d_X12_laysThick_0 1 rfl rfl 0 rfl ?_
  refine z_get cx d_X12_laysThick_1 4 rfl e_M rfl zX12 34 (by decide) q_1395 rfl rfl ?_
  refine y_iconst cx d_X12_laysThick_4 5 rfl ?_
  refine y_iconst cx d_X12_laysThick_5 6 rfl ?_
  refine y_iast cx d_X12_laysThick_6 7 rfl e_M_found (by decide) h (fun _ h9 => s_M_found h9) (fun M_1 h => ?_)
  refine z_aload_n cx d_X12_laysThick_7 8 rfl rfl 0 rfl ?_
  refine z_get cx d_X12_laysThick_8 11 rfl e_M rfl zX12 34 (by decide) q_1395 rfl rfl ?_
  refine y_iconst cx d_X12_laysThick_11 12 rfl ?_
  refine y_iconst cx d_X12_laysThick_12 13 rfl ?_
  refine y_iast cx d_X12_laysThick_13 14 rfl e_M_found (by decide) h (fun _ h9 => s_M_found h9) (fun M_2 h => ?_)
  refine z_aload_n cx d_X12_laysThick_14 15 rfl rfl 0 rfl ?_
  refine z_get cx d_X12_laysThick_15 18 rfl e_M rfl zX12 34 (by decide) q_1395 rfl rfl ?_
  refine y_iconst cx d_X12_laysThick_18 19 rfl ?_
  refine y_iconst cx d_X12_laysThick_19 20 rfl ?_
  refine y_iast cx d_X12_laysThick_20 21 rfl e_M_found (by decide) h (fun _ h9 => s_M_found h9) (fun M_3 h => ?_)
  refine y_iconst cx d_X12_laysThick_21 22 rfl ?_
  refine y_istore_n cx d_X12_laysThick_22 23 rfl rfl (by decide) (lv' := [(3, .int (zI 1)), (0, .ref (g.2.2 0)), (1, .int (zI a1)), (2, .int (zI a2))]) rfl ?_
  refine z_sub [1, 2, 3, 0] rfl ?_
  refine lop2_f (P := fun (v3_4 : Int) (M_5 : ZB) => V p l e zrM_laysThick s m args below meth c A s.heap g 7 Q (wM g M_5) 0 0 [(0, .ref (g.2.2 0)), (1, .int (zI a1)), (2, .int (zI a2)), (3, .int (zI v3_4))] 23 []) (fun rec_6 hrec_6 v3_4 M_5 h => ?_) _ _ _ h
  refine z_iload_n cx d_X12_laysThick_23 24 rfl rfl 3 rfl ?_
  refine y_sipush cx d_X12_laysThick_24 27 rfl (by decide) ?_
  refine y_icmp_ge cx d_X12_laysThick_27 30 rfl 225 (by decide) rfl (nm_eq (x := 1024) (by decide) (by decide)) h (fun h => ?_) (fun h => ?_)
  · subst hQ
    obtain rfl := Option.some.inj h
    exact z_vret cx d_X12_laysThick_225 rfl
  · refine z_iload_n cx d_X12_laysThick_30 31 rfl rfl 3 rfl ?_
    refine z_iload_n cx d_X12_laysThick_31 32 rfl rfl 1 rfl ?_
    refine y_iconst cx d_X12_laysThick_32 33 rfl ?_
    refine y_ixor cx d_X12_laysThick_33 34 rfl ?_
    refine y_iand cx d_X12_laysThick_34 35 rfl ?_
    refine kf1_f (P := fun (M_7 : ZB) => V p l e zrM_laysThick s m args below meth c A s.heap g 7 Q (wM g M_7) 0 0 [(0, .ref (g.2.2 0)), (1, .int (zI a1)), (2, .int (zI a2)), (3, .int (zI v3_4))] 219 []) h (fun M_7 h => ?_) (fun k_8 hk_8 h => ?_)
    · refine y_iinc cx 3 d_X12_laysThick_219 222 rfl rfl (by decide) (lv' := [(3, .int (zI (v3_4 + 1))), (0, .ref (g.2.2 0)), (1, .int (zI a1)), (2, .int (zI a2))]) rfl ?_
      refine z_goto cx d_X12_laysThick_222 23 (by decide) ?_
      refine z_sub [1, 2, 3, 0] rfl ?_
      exact hrec_6 _ _ h
    refine y_if_ne cx d_X12_laysThick_35 38 rfl 219 (by decide) (nm_zand _ _) h (fun h => ?_) (fun h => ?_)
    · exact hk_8 _ h
    · refine z_iload_n cx d_X12_laysThick_38 39 rfl rfl 3 rfl ?_
      refine y_callS_i (As := [.int (zI v3_4)]) (rest := []) (W := fun u_9 => wM g M_5) (rf := fun u_9 => zI u_9) (rm := zr0) cx (fun _ hq => tM_bits hq) d_X12_laysThick_39 42 rfl kk_X12_bits q_1649 q_1650 ⟨rfl, rfl⟩ ⟨Nat.le_of_ble_eq_true rfl, Nat.le_of_ble_eq_true rfl⟩ rfl rfl (Nat.le_of_ble_eq_true rfl) ⟨Nat.zero_le _, Nat.zero_le _⟩ h (fun u_9 h => ?_)
      refine y_iconst cx d_X12_laysThick_42 43 rfl ?_
      refine y_icmp_ge cx d_X12_laysThick_43 46 rfl 49 (by decide) rfl (nm_eq (x := 2) (by decide) (by decide)) h (fun h => ?_) (fun h => ?_)
      · refine y_iconst cx d_X12_laysThick_49 50 rfl ?_
        refine y_istore cx d_X12_laysThick_50 52 rfl (by decide) (lv' := [(4, .int (zI 0)), (0, .ref (g.2.2 0)), (1, .int (zI a1)), (2, .int (zI a2)), (3, .int (zI v3_4))]) rfl ?_
        refine y_iconst cx d_X12_laysThick_52 53 rfl ?_
        refine y_istore cx d_X12_laysThick_53 55 rfl (by decide) (lv' := [(5, .int (zI 0)), (4, .int (zI 0)), (0, .ref (g.2.2 0)), (1, .int (zI a1)), (2, .int (zI a2)), (3, .int (zI v3_4))]) rfl ?_
        refine z_sub [2, 3, 4, 5, 1, 0] rfl ?_
        refine lop2_f (P := fun (v4_10 : Int) (v5_11 : Int) => V p l e zrM_laysThick s m args below meth c A s.heap g 7 Q (wM g M_5) 0 0 [(0, .ref (g.2.2 0)), (1, .int (zI a1)), (2, .int (zI a2)), (3, .int (zI v3_4)), (4, .int (zI v4_10)), (5, .int (zI v5_11))] 55 []) (fun rec_12 hrec_12 v4_10 v5_11 h => ?_) _ _ _ h
        refine z_iload cx d_X12_laysThick_55 57 rfl 5 rfl ?_
        refine z_aload_n cx d_X12_laysThick_57 58 rfl rfl 0 rfl ?_
        refine y_callV_i (As := []) (rest := [.int (zI v5_11)]) (W := fun u_13 => wM g M_5) (rf := fun u_13 => zI u_13) (rm := zr0) cx (fun _ hq => tM_lines hq) d_X12_laysThick_58 61 rfl kk_X12_lines q_1582 q_1584 q_63 rfl e_M rfl ⟨rfl, rfl⟩ ⟨Nat.le_of_ble_eq_true rfl, Nat.le_of_ble_eq_true rfl⟩ rfl rfl (Nat.le_of_ble_eq_true rfl) ⟨Nat.zero_le _, Nat.zero_le _⟩ h (fun u_13 h => ?_)
        refine y_icmp_ge cx d_X12_laysThick_61 64 rfl 125 (by decide) rfl rfl h (fun h => ?_) (fun h => ?_)
        · refine z_iload_n cx d_X12_laysThick_125 126 rfl rfl 3 rfl ?_
          refine y_callS_i (As := [.int (zI v3_4)]) (rest := []) (W := fun u_14 => wM g M_5) (rf := fun u_14 => zI u_14) (rm := zr0) cx (fun _ hq => tM_bits hq) d_X12_laysThick_126 129 rfl kk_X12_bits q_1649 q_1650 ⟨rfl, rfl⟩ ⟨Nat.le_of_ble_eq_true rfl, Nat.le_of_ble_eq_true rfl⟩ rfl rfl (Nat.le_of_ble_eq_true rfl) ⟨Nat.zero_le _, Nat.zero_le _⟩ h (fun u_14 h => ?_)
          refine y_iconst cx d_X12_laysThick_129 130 rfl ?_
          refine y_isub cx d_X12_laysThick_130 131 rfl ?_
          refine y_istore_b cx d_X12_laysThick_131 133 rfl (by decide) (fun y => [(5, .int (zI y)), (0, .ref (g.2.2 0)), (1, .int (zI a1)), (2, .int (zI a2)), (3, .int (zI v3_4)), (4, .int (zI v4_10))]) (fun y => rfl) h (fun v5_15 h => ?_)
          refine z_aload_n cx d_X12_laysThick_133 134 rfl rfl 1 rfl ?_
          refine z_get cx d_X12_laysThick_134 137 rfl e_M rfl zX12 34 (by decide) q_1395 rfl rfl ?_
          refine y_iconst cx d_X12_laysThick_137 138 rfl ?_
          refine y_ialdx cx d_X12_laysThick_138 139 rfl e_M_found (by decide) h (fun x_16 h => ?_)
          refine kf1_f (P := fun (w0_17 : Int) => V p l e zrM_laysThick s m args below meth c A s.heap g 7 Q (wM g M_5) 0 0 [(0, .ref (g.2.2 0)), (1, .int (zI a1)), (2, .int (zI a2)), (3, .int (zI v3_4)), (4, .int (zI v4_10)), (5, .int (zI v5_15))] 165 [.int (zI w0_17)]) h (fun w0_17 h => ?_) (fun k_18 hk_18 h => ?_)
          · refine y_istore cx d_X12_laysThick_165 167 rfl (by decide) (lv' := [(6, .int (zI w0_17)), (0, .ref (g.2.2 0)), (1, .int (zI a1)), (2, .int (zI a2)), (3, .int (zI v3_4)), (4, .int (zI v4_10)), (5, .int (zI v5_15))]) rfl ?_
            refine z_iload cx d_X12_laysThick_167 169 rfl 0 rfl ?_
            refine y_if_lt cx d_X12_laysThick_169 172 rfl 219 (by decide) rfl h (fun h => ?_) (fun h => ?_)
            · refine z_sub [1, 2, 3, 4] rfl ?_
              exact hk_8 _ h
            · refine z_iload cx d_X12_laysThick_172 174 rfl 0 rfl ?_
              refine kf0_f (P := V p l e zrM_laysThick s m args below meth c A s.heap g 7 Q (wM g M_5) 0 0 [(0, .ref (g.2.2 0)), (1, .int (zI a1)), (2, .int (zI a2)), (3, .int (zI v3_4)), (4, .int (zI v4_10)), (5, .int (zI v5_15))] 196 []) h (fun h => ?_) (fun k_19 hk_19 h => ?_)
              · refine z_aload_n cx d_X12_laysThick_196 197 rfl rfl 0 rfl ?_
                refine z_get cx d_X12_laysThick_197 200 rfl e_M rfl zX12 34 (by decide) q_1395 rfl rfl ?_
                refine y_iconst cx d_X12_laysThick_200 201 rfl ?_
                refine z_iload cx d_X12_laysThick_201 203 rfl 4 rfl ?_
                refine y_iast cx d_X12_laysThick_203 204 rfl e_M_found (by decide) h (fun _ h9 => s_M_found h9) (fun M_20 h => ?_)
                refine z_aload_n cx d_X12_laysThick_204 205 rfl rfl 0 rfl ?_
                refine z_get cx d_X12_laysThick_205 208 rfl e_M rfl zX12 34 (by decide) q_1395 rfl rfl ?_
                refine y_iconst cx d_X12_laysThick_208 209 rfl ?_
                refine z_iload cx d_X12_laysThick_209 211 rfl 5 rfl ?_
                refine y_iast cx d_X12_laysThick_211 212 rfl e_M_found (by decide) h (fun _ h9 => s_M_found h9) (fun M_21 h => ?_)
                refine z_aload_n cx d_X12_laysThick_212 213 rfl rfl 0 rfl ?_
                refine z_get cx d_X12_laysThick_213 216 rfl e_M rfl zX12 34 (by decide) q_1395 rfl rfl ?_
                refine y_iconst cx d_X12_laysThick_216 217 rfl ?_
                refine z_iload_n cx d_X12_laysThick_217 218 rfl rfl 3 rfl ?_
                refine y_iast cx d_X12_laysThick_218 219 rfl e_M_found (by decide) h (fun _ h9 => s_M_found h9) (fun M_22 h => ?_)
                refine z_sub [0, 1, 2, 3] rfl ?_
                exact hk_8 _ h
              refine y_if_ne cx d_X12_laysThick_174 177 rfl 196 (by decide) rfl h (fun h => ?_) (fun h => ?_)
              · refine z_sub [1, 2, 3, 4, 5, 6] rfl ?_
                exact hk_19  h
              · refine z_iload_n cx d_X12_laysThick_177 178 rfl rfl 4 rfl ?_
                refine y_callS_i (As := [.int (zI v3_4)]) (rest := []) (W := fun u_23 => wM g M_5) (rf := fun u_23 => zI u_23) (rm := zr0) cx (fun _ hq => tM_bits hq) d_X12_laysThick_178 181 rfl kk_X12_bits q_1649 q_1650 ⟨rfl, rfl⟩ ⟨Nat.le_of_ble_eq_true rfl, Nat.le_of_ble_eq_true rfl⟩ rfl rfl (Nat.le_of_ble_eq_true rfl) ⟨Nat.zero_le _, Nat.zero_le _⟩ h (fun u_23 h => ?_)
                refine z_aload_n cx d_X12_laysThick_181 182 rfl rfl 1 rfl ?_
                refine z_get cx d_X12_laysThick_182 185 rfl e_M rfl zX12 34 (by decide) q_1395 rfl rfl ?_
                refine y_iconst cx d_X12_laysThick_185 186 rfl ?_
                refine y_ialdx cx d_X12_laysThick_186 187 rfl e_M_found (by decide) h (fun x_24 h => ?_)
                refine y_callS_i (As := [.int (zI x_24)]) (rest := [.int (zI u_23)]) (W := fun u_25 => wM g M_5) (rf := fun u_25 => zI u_25) (rm := zr0) cx (fun _ hq => tM_bits hq) d_X12_laysThick_187 190 rfl kk_X12_bits q_1649 q_1650 ⟨rfl, rfl⟩ ⟨Nat.le_of_ble_eq_true rfl, Nat.le_of_ble_eq_true rfl⟩ rfl rfl (Nat.le_of_ble_eq_true rfl) ⟨Nat.zero_le _, Nat.zero_le _⟩ h (fun u_25 h => ?_)
                refine y_icmp_lt cx d_X12_laysThick_190 193 rfl 196 (by decide) rfl rfl h (fun h => ?_) (fun h => ?_)
                · refine z_sub [1, 2, 3, 4, 5, 6] rfl ?_
                  exact hk_19  h
                · refine z_goto cx d_X12_laysThick_193 219 (by decide) ?_
                  refine z_sub [1, 2, 3, 4] rfl ?_
                  exact hk_8 _ h
          refine y_if_ne cx d_X12_laysThick_139 142 rfl 146 (by decide) rfl h (fun h => ?_) (fun h => ?_)
          · refine z_iload cx d_X12_laysThick_146 148 rfl 5 rfl ?_
            refine z_aload_n cx d_X12_laysThick_148 149 rfl rfl 1 rfl ?_
            refine z_get cx d_X12_laysThick_149 152 rfl e_M rfl zX12 34 (by decide) q_1395 rfl rfl ?_
            refine y_iconst cx d_X12_laysThick_152 153 rfl ?_
            refine y_ialdx cx d_X12_laysThick_153 154 rfl e_M_found (by decide) h (fun x_26 h => ?_)
            refine y_imul cx d_X12_laysThick_154 155 rfl ?_
            refine z_aload_n cx d_X12_laysThick_155 156 rfl rfl 1 rfl ?_
            refine z_get cx d_X12_laysThick_156 159 rfl e_M rfl zX12 34 (by decide) q_1395 rfl rfl ?_
            refine y_iconst cx d_X12_laysThick_159 160 rfl ?_
            refine y_ialdx cx d_X12_laysThick_160 161 rfl e_M_found (by decide) h (fun x_27 h => ?_)
            refine z_iload cx d_X12_laysThick_161 163 rfl 0 rfl ?_
            refine y_imul cx d_X12_laysThick_163 164 rfl ?_
            refine y_isub cx d_X12_laysThick_164 165 rfl ?_
            refine z_sub [1, 2, 3, 4, 5, 0] rfl ?_
            exact hk_18 _ h
          · refine y_iconst cx d_X12_laysThick_142 143 rfl ?_
            refine z_goto cx d_X12_laysThick_143 165 (by decide) ?_
            refine z_sub [1, 2, 3, 4, 5, 0] rfl ?_
            exact hk_18 _ h
        · refine z_iload_n cx d_X12_laysThick_64 65 rfl rfl 2 rfl ?_
          refine z_iload cx d_X12_laysThick_65 67 rfl 5 rfl ?_
          refine y_callS_i (As := [.int (zI a2), .int (zI v5_11)]) (rest := []) (W := fun u_28 => wM g M_5) (rf := fun u_28 => zI u_28) (rm := zr0) cx (fun _ hq => tM_has hq) d_X12_laysThick_67 70 rfl kk_X12_has q_1626 q_1627 ⟨rfl, rfl⟩ ⟨Nat.le_of_ble_eq_true rfl, Nat.le_of_ble_eq_true rfl⟩ rfl rfl (Nat.le_of_ble_eq_true rfl) ⟨Nat.zero_le _, Nat.zero_le _⟩ h (fun u_28 h => ?_)
          refine kf1_f (P := fun (v4_29 : Int) => V p l e zrM_laysThick s m args below meth c A s.heap g 7 Q (wM g M_5) 0 0 [(0, .ref (g.2.2 0)), (1, .int (zI a1)), (2, .int (zI a2)), (3, .int (zI v3_4)), (4, .int (zI v4_29)), (5, .int (zI v5_11))] 119 []) h (fun v4_29 h => ?_) (fun k_30 hk_30 h => ?_)
          · refine y_iinc cx 5 d_X12_laysThick_119 122 rfl rfl (by decide) (lv' := [(5, .int (zI (v5_11 + 1))), (0, .ref (g.2.2 0)), (1, .int (zI a1)), (2, .int (zI a2)), (3, .int (zI v3_4)), (4, .int (zI v4_29))]) rfl ?_
            refine z_goto cx d_X12_laysThick_122 55 (by decide) ?_
            refine z_sub [1, 2, 3, 4, 5, 0] rfl ?_
            exact hrec_12 _ _ h
          refine y_if_eq cx d_X12_laysThick_70 73 rfl 119 (by decide) rfl h (fun h => ?_) (fun h => ?_)
          · exact hk_30 _ h
          · refine z_iload_n cx d_X12_laysThick_73 74 rfl rfl 3 rfl ?_
            refine z_aload_n cx d_X12_laysThick_74 75 rfl rfl 0 rfl ?_
            refine z_get cx d_X12_laysThick_75 78 rfl e_M rfl zX12 35 (by decide) q_1396 rfl rfl ?_
            refine z_aload_n cx d_X12_laysThick_78 79 rfl rfl 0 rfl ?_
            refine z_get cx d_X12_laysThick_79 82 rfl e_M rfl zX12 12 (by decide) q_1373 rfl rfl ?_
            refine y_iconst cx d_X12_laysThick_82 83 rfl ?_
            refine z_iload cx d_X12_laysThick_83 85 rfl 5 rfl ?_
            refine y_iadd cx d_X12_laysThick_85 86 rfl ?_
            refine y_ialdx cx d_X12_laysThick_86 87 rfl e_M_now (by decide) h (fun x_31 h => ?_)
            refine y_ialdx cx d_X12_laysThick_87 88 rfl e_M_standsFor (by decide) h (fun x_32 h => ?_)
            refine y_callS_i (As := [.int (zI v3_4), .int (zI x_32)]) (rest := []) (W := fun u_33 => wM g M_5) (rf := fun u_33 => zI u_33) (rm := zr0) cx (fun _ hq => tM_has hq) d_X12_laysThick_88 91 rfl kk_X12_has q_1626 q_1627 ⟨rfl, rfl⟩ ⟨Nat.le_of_ble_eq_true rfl, Nat.le_of_ble_eq_true rfl⟩ rfl rfl (Nat.le_of_ble_eq_true rfl) ⟨Nat.zero_le _, Nat.zero_le _⟩ h (fun u_33 h => ?_)
            refine y_if_eq cx d_X12_laysThick_91 94 rfl 119 (by decide) rfl h (fun h => ?_) (fun h => ?_)
            · exact hk_30 _ h
            · refine z_iload_n cx d_X12_laysThick_94 95 rfl rfl 3 rfl ?_
              refine z_aload_n cx d_X12_laysThick_95 96 rfl rfl 0 rfl ?_
              refine z_get cx d_X12_laysThick_96 99 rfl e_M rfl zX12 35 (by decide) q_1396 rfl rfl ?_
              refine z_aload_n cx d_X12_laysThick_99 100 rfl rfl 0 rfl ?_
              refine z_get cx d_X12_laysThick_100 103 rfl e_M rfl zX12 12 (by decide) q_1373 rfl rfl ?_
              refine y_bipush cx d_X12_laysThick_103 105 rfl (by decide) ?_
              refine z_iload cx d_X12_laysThick_105 107 rfl 5 rfl ?_
              refine y_iadd cx d_X12_laysThick_107 108 rfl ?_
              refine y_ialdx cx d_X12_laysThick_108 109 rfl e_M_now (by decide) h (fun x_34 h => ?_)
              refine y_ialdx cx d_X12_laysThick_109 110 rfl e_M_standsFor (by decide) h (fun x_35 h => ?_)
              refine y_callS_i (As := [.int (zI v3_4), .int (zI x_35)]) (rest := []) (W := fun u_36 => wM g M_5) (rf := fun u_36 => zI u_36) (rm := zr0) cx (fun _ hq => tM_has hq) d_X12_laysThick_110 113 rfl kk_X12_has q_1626 q_1627 ⟨rfl, rfl⟩ ⟨Nat.le_of_ble_eq_true rfl, Nat.le_of_ble_eq_true rfl⟩ rfl rfl (Nat.le_of_ble_eq_true rfl) ⟨Nat.zero_le _, Nat.zero_le _⟩ h (fun u_36 h => ?_)
              refine y_if_eq cx d_X12_laysThick_113 116 rfl 119 (by decide) rfl h (fun h => ?_) (fun h => ?_)
              · exact hk_30 _ h
              · refine y_iinc cx 4 d_X12_laysThick_116 119 rfl rfl (by decide) (lv' := [(4, .int (zI (v4_10 + 1))), (0, .ref (g.2.2 0)), (1, .int (zI a1)), (2, .int (zI a2)), (3, .int (zI v3_4)), (5, .int (zI v5_11))]) rfl ?_
                refine z_sub [1, 2, 3, 4, 0, 5] rfl ?_
                exact hk_30 _ h
      · refine z_goto cx d_X12_laysThick_46 219 (by decide) ?_
        exact hk_8 _ h
def zrM_divisor (n : Nat) : Room := { frames := n + 0, cells := 0, slots := 0, locals := n * 21 + 0 }
theorem zrM_divisor_step (n : Nat) : 8 + (2 + 11) + (zrM_divisor n).locals ≤ (zrM_divisor (n + 1)).locals := by simp only [zrM_divisor]; omega
theorem zrM_divisor_fr (n k : Nat) (h : k ≤ 1) : k ≤ (zrM_divisor (n + 1)).frames := by simp only [zrM_divisor]; omega
theorem zrM_divisor_lo (n k : Nat) (h : k ≤ 21) : k ≤ (zrM_divisor (n + 1)).locals := by simp only [zrM_divisor]; omega
set_option maxHeartbeats 4000000 in
theorem tM_divisor {l : Launch} {g : ZG} : ∀ {n : Nat} {w : va_W} {a1 : Int} {a2 : Int} {r : Int} (_ : fM_divisor n a1 a2 = some r), zMi l yX12_divisor cX12_divisor 2 (some .int) (zrM_divisor n) g [.int (zI a1), .int (zI a2)] (w) (w) (zI r) := by
  intro n
  induction n with
  | zero => intro w a1 a2 r h; exact absurd h (by simp [fM_divisor])
  | succ n ih =>
    intro w a1 a2 r h
    replace h := (show _ = some r from h)
    unfold fM_divisor at h
    refine zMi_q (own := RX12) rfl (by decide +kernel) (Nat.le_of_ble_eq_true rfl) (lv := [(0, .int (zI a1)), (1, .int (zI a2))]) rfl ⟨rfl, rfl⟩ ?_
    intro p e s m args below meth c A Q hQ cx
    refine z_iload_n cx d_X12_divisor_0 1 rfl rfl 1 rfl ?_
    refine kf1_f (P := fun (w0_1 : Int) => V p l e (zrM_divisor (n + 1)) s m args below meth c A s.heap g 2 Q (w) 0 0 [] 15 [.int (zI w0_1)]) h (fun w0_1 h => ?_) (fun k_2 hk_2 h => ?_)
    · subst hQ
      obtain rfl := Option.some.inj h
      exact z_iret cx d_X12_divisor_15 rfl rfl
    refine y_if_ne cx d_X12_divisor_1 4 rfl 8 (by decide) rfl h (fun h => ?_) (fun h => ?_)
    · refine z_iload_n cx d_X12_divisor_8 9 rfl rfl 1 rfl ?_
      refine z_iload_n cx d_X12_divisor_9 10 rfl rfl 0 rfl ?_
      refine z_iload_n cx d_X12_divisor_10 11 rfl rfl 1 rfl ?_
      refine y_irem cx d_X12_divisor_11 12 rfl h (fun h => ?_)
      refine y_callS_i (As := [.int (zI a2), .int (zI (zrem a1 a2))]) (rest := []) (W := fun u_3 => w) (rf := fun u_3 => zI u_3) (rm := (zrM_divisor n)) cx (fun _ hq => ih hq) d_X12_divisor_12 15 rfl kk_X12_divisor q_1854 q_1855 ⟨rfl, rfl⟩ ⟨Nat.le_refl _, zrM_divisor_step n⟩ rfl rfl (Nat.le_of_ble_eq_true rfl) ⟨Nat.zero_le _, Nat.zero_le _⟩ h (fun u_3 h => ?_)
      refine z_sub [] rfl ?_
      exact hk_2 _ h
    · refine z_iload_n cx d_X12_divisor_4 5 rfl rfl 0 rfl ?_
      refine z_goto cx d_X12_divisor_5 15 (by decide) ?_
      refine z_sub [] rfl ?_
      exact hk_2 _ h
def zrM_part : Room := { frames := 61, cells := 0, slots := 0, locals := 1281 }
set_option maxHeartbeats 4000000 in
theorem tM_part {l : Launch} {g : ZG} {w : va_W} {a1 : Int} {a2 : Int} {a3 : Int} {r : Int} (h : fM_part a1 a2 a3 = some r) : zMi l yX12_part cX12_part 4 (some .int) zrM_part g [.int (zI a1), .int (zI a2), .int (zI a3)] (w) (w) (zI r) := by
  unfold fM_part at h
  refine zMi_q (own := RX12) rfl (by decide +kernel) (Nat.le_of_ble_eq_true rfl) (lv := [(0, .int (zI a1)), (1, .int (zI a2)), (2, .int (zI a3))]) rfl ⟨rfl, rfl⟩ ?_
  intro p e s m args below meth c A Q hQ cx
  refine z_iload_n cx d_X12_part_0 1 rfl rfl 0 rfl ?_
  refine z_iload_n cx d_X12_part_1 2 rfl rfl 1 rfl ?_
  refine y_callS_i (As := [.int (zI a1), .int (zI a2)]) (rest := []) (W := fun u_1 => w) (rf := fun u_1 => zI u_1) (rm := (zrM_divisor 60)) cx (fun _ hq => tM_divisor hq) d_X12_part_2 5 rfl kk_X12_divisor q_1854 q_1855 ⟨rfl, rfl⟩ ⟨Nat.le_of_ble_eq_true rfl, Nat.le_of_ble_eq_true rfl⟩ rfl rfl (Nat.le_of_ble_eq_true rfl) ⟨Nat.zero_le _, Nat.zero_le _⟩ h (fun u_1 h => ?_)
  refine y_istore_n cx d_X12_part_5 6 rfl rfl (by decide) (lv' := [(3, .int (zI u_1)), (0, .int (zI a1)), (1, .int (zI a2)), (2, .int (zI a3))]) rfl ?_
  refine z_iload_n cx d_X12_part_6 7 rfl rfl 1 rfl ?_
  refine kf1_f (P := fun (w0_2 : Int) => V p l e zrM_part s m args below meth c A s.heap g 4 Q (w) 0 0 [] 25 [.int (zI w0_2)]) h (fun w0_2 h => ?_) (fun k_3 hk_3 h => ?_)
  · subst hQ
    obtain rfl := Option.some.inj h
    exact z_iret cx d_X12_part_25 rfl rfl
  refine y_if_ne cx d_X12_part_7 10 rfl 14 (by decide) rfl h (fun h => ?_) (fun h => ?_)
  · refine z_iload_n cx d_X12_part_14 15 rfl rfl 3 rfl ?_
    refine kf1_f (P := fun (w0_4 : Int) => V p l e zrM_part s m args below meth c A s.heap g 4 Q (w) 0 0 [(3, .int (zI u_1))] 23 [.int (zI w0_4)]) h (fun w0_4 h => ?_) (fun k_5 hk_5 h => ?_)
    · refine z_iload_n cx d_X12_part_23 24 rfl rfl 0 rfl ?_
      refine y_idiv cx d_X12_part_24 25 rfl h (fun h => ?_)
      refine z_sub [] rfl ?_
      exact hk_3 _ h
    refine y_if_ne cx d_X12_part_15 18 rfl 22 (by decide) rfl h (fun h => ?_) (fun h => ?_)
    · refine z_iload_n cx d_X12_part_22 23 rfl rfl 2 rfl ?_
      refine z_sub [0] rfl ?_
      exact hk_5 _ h
    · refine z_iload_n cx d_X12_part_18 19 rfl rfl 1 rfl ?_
      refine z_goto cx d_X12_part_19 23 (by decide) ?_
      refine z_sub [0] rfl ?_
      exact hk_5 _ h
  · refine z_iload_n cx d_X12_part_10 11 rfl rfl 3 rfl ?_
    refine z_goto cx d_X12_part_11 25 (by decide) ?_
    refine z_sub [] rfl ?_
    exact hk_3 _ h
def zrM_thick : Room := { frames := 62, cells := 0, slots := 0, locals := 1304 }
set_option maxHeartbeats 4000000 in
theorem tM_thick {l : Launch} {g : ZG} {M : ZB} {a1 : Int} {r : Int × ZB} (h : fM_thick M a1 = some r) : zMi l yX12_thick cX12_thick 2 (some .int) zrM_thick g [.ref (g.2.2 0), .int (zI a1)] (wM g M) (wM g r.2) (zI r.1) := by
  unfold fM_thick at h
  refine zMi_q (own := RX12) rfl (by decide +kernel) (Nat.le_of_ble_eq_true rfl) (lv := [(0, .ref (g.2.2 0)), (1, .int (zI a1))]) rfl ⟨rfl, rfl⟩ ?_
  intro p e s m args below meth c A Q hQ cx
  refine z_aload_n cx d_X12_thick_0 1 rfl rfl 0 rfl ?_
  refine y_iconst cx d_X12_thick_1 2 rfl ?_
  refine y_put cx d_X12_thick_2 5 rfl e_M rfl zX12 tyX12_ok nmX12 0 (by decide) q_1361 rfl rfl rfl rfl (Nat.le_of_ble_eq_true rfl) h (fun _ h9 => s_M_0 h9) (fun M_1 h => ?_)
  refine z_aload_n cx d_X12_thick_5 6 rfl rfl 0 rfl ?_
  refine y_callV_i (As := []) (rest := []) (W := fun u_2 => wM g M_1) (rf := fun u_2 => zI u_2) (rm := zr0) cx (fun _ hq => tM_points hq) d_X12_thick_6 9 rfl kk_X12_points q_1641 q_1643 q_73 rfl e_M rfl ⟨rfl, rfl⟩ ⟨Nat.le_of_ble_eq_true rfl, Nat.le_of_ble_eq_true rfl⟩ rfl rfl (Nat.le_of_ble_eq_true rfl) ⟨Nat.zero_le _, Nat.zero_le _⟩ h (fun u_2 h => ?_)
  refine y_iconst cx d_X12_thick_9 10 rfl ?_
  refine kf0_f (P := V p l e zrM_thick s m args below meth c A s.heap g 2 Q (wM g M_1) 0 0 [] 22 []) h (fun h => ?_) (fun k_3 hk_3 h => ?_)
  · refine y_iconst cx d_X12_thick_22 23 rfl ?_
    subst hQ
    obtain rfl := Option.some.inj h
    exact z_iret cx d_X12_thick_23 rfl rfl
  refine y_icmp_lt cx d_X12_thick_10 13 rfl 22 (by decide) rfl (nm_eq (x := 2) (by decide) (by decide)) h (fun h => ?_) (fun h => ?_)
  · refine z_sub [] rfl ?_
    exact hk_3  h
  · refine z_iload_n cx d_X12_thick_13 14 rfl rfl 1 rfl ?_
    refine y_iconst cx d_X12_thick_14 15 rfl ?_
    refine y_iconst cx d_X12_thick_15 16 rfl ?_
    refine y_callS_i (As := [.int (zI a1), .int (zI 0), .int (zI 2)]) (rest := []) (W := fun u_4 => wM g M_1) (rf := fun u_4 => zI u_4) (rm := zr0) cx (fun _ hq => tM_isIn hq) d_X12_thick_16 19 rfl kk_X12_isIn q_1552 q_1553 ⟨rfl, rfl⟩ ⟨Nat.le_of_ble_eq_true rfl, Nat.le_of_ble_eq_true rfl⟩ rfl rfl (Nat.le_of_ble_eq_true rfl) ⟨Nat.zero_le _, Nat.zero_le _⟩ h (fun u_4 h => ?_)
    refine y_if_ne cx d_X12_thick_19 22 rfl 24 (by decide) rfl h (fun h => ?_) (fun h => ?_)
    · refine z_aload_n cx d_X12_thick_24 25 rfl rfl 0 rfl ?_
      refine y_callV_v (As := []) (rest := []) (W := fun u_5 => wM g u_5) (rm := zr0) cx (fun _ hq => tM_standAlone hq) d_X12_thick_25 28 rfl kk_X12_standAlone q_1843 q_1845 q_101 rfl e_M rfl ⟨rfl, rfl⟩ ⟨Nat.le_of_ble_eq_true rfl, Nat.le_of_ble_eq_true rfl⟩ rfl rfl (Nat.le_of_ble_eq_true rfl) ⟨Nat.zero_le _, Nat.zero_le _⟩ h (fun u_5 h => ?_)
      refine z_aload_n cx d_X12_thick_28 29 rfl rfl 0 rfl ?_
      refine y_iconst cx d_X12_thick_29 30 rfl ?_
      refine z_aload_n cx d_X12_thick_30 31 rfl rfl 0 rfl ?_
      refine y_callV_i (As := []) (rest := [.int (zI 1), .ref (g.2.2 0)]) (W := fun u_6 => wM g u_5) (rf := fun u_6 => zI u_6) (rm := zr0) cx (fun _ hq => tM_points hq) d_X12_thick_31 34 rfl kk_X12_points q_1641 q_1643 q_73 rfl e_M rfl ⟨rfl, rfl⟩ ⟨Nat.le_of_ble_eq_true rfl, Nat.le_of_ble_eq_true rfl⟩ rfl rfl (Nat.le_of_ble_eq_true rfl) ⟨Nat.zero_le _, Nat.zero_le _⟩ h (fun u_6 h => ?_)
      refine y_ishl cx d_X12_thick_34 35 rfl ?_
      refine y_iconst cx d_X12_thick_35 36 rfl ?_
      refine y_isub cx d_X12_thick_36 37 rfl ?_
      refine z_aload_n cx d_X12_thick_37 38 rfl rfl 0 rfl ?_
      refine y_callV_i (As := []) (rest := [.int (zI ((zshl 1 u_6) - 1)), .ref (g.2.2 0)]) (W := fun u_7 => wM g u_5) (rf := fun u_7 => zI u_7) (rm := zrM_sound) cx (fun _ hq => tM_sound hq) d_X12_thick_38 41 rfl kk_X12_sound q_1645 q_1647 q_74 rfl e_M rfl ⟨rfl, rfl⟩ ⟨Nat.le_of_ble_eq_true rfl, Nat.le_of_ble_eq_true rfl⟩ rfl rfl (Nat.le_of_ble_eq_true rfl) ⟨Nat.zero_le _, Nat.zero_le _⟩ h (fun u_7 h => ?_)
      refine y_callV_v (As := [.int (zI ((zshl 1 u_6) - 1)), .int (zI u_7)]) (rest := []) (W := fun u_8 => wM g u_8) (rm := zrM_laysThick) cx (fun _ hq => tM_laysThick hq) d_X12_thick_41 44 rfl kk_X12_laysThick q_1847 q_1849 q_102 rfl e_M rfl ⟨rfl, rfl⟩ ⟨Nat.le_of_ble_eq_true rfl, Nat.le_of_ble_eq_true rfl⟩ rfl rfl (Nat.le_of_ble_eq_true rfl) ⟨Nat.zero_le _, Nat.zero_le _⟩ h (fun u_8 h => ?_)
      refine z_iload_n cx d_X12_thick_44 45 rfl rfl 1 rfl ?_
      refine y_iconst cx d_X12_thick_45 46 rfl ?_
      refine kf1_f (P := fun (w0_9 : Int) => V p l e zrM_thick s m args below meth c A s.heap g 2 Q (wM g u_8) 0 0 [] 74 [.int (zI w0_9)]) h (fun w0_9 h => ?_) (fun k_10 hk_10 h => ?_)
      · subst hQ
        obtain rfl := Option.some.inj h
        exact z_iret cx d_X12_thick_74 rfl rfl
      refine y_icmp_ne cx d_X12_thick_46 49 rfl 58 (by decide) rfl (nm_eq (x := 2) (by decide) (by decide)) h (fun h => ?_) (fun h => ?_)
      · refine z_aload_n cx d_X12_thick_58 59 rfl rfl 0 rfl ?_
        refine z_get cx d_X12_thick_59 62 rfl e_M rfl zX12 34 (by decide) q_1395 rfl rfl ?_
        refine y_iconst cx d_X12_thick_62 63 rfl ?_
        refine y_ialdx cx d_X12_thick_63 64 rfl e_M_found (by decide) h (fun x_11 h => ?_)
        refine z_aload_n cx d_X12_thick_64 65 rfl rfl 0 rfl ?_
        refine z_get cx d_X12_thick_65 68 rfl e_M rfl zX12 34 (by decide) q_1395 rfl rfl ?_
        refine y_iconst cx d_X12_thick_68 69 rfl ?_
        refine y_ialdx cx d_X12_thick_69 70 rfl e_M_found (by decide) h (fun x_12 h => ?_)
        refine z_iload_n cx d_X12_thick_70 71 rfl rfl 1 rfl ?_
        refine y_callS_i (As := [.int (zI x_11), .int (zI x_12), .int (zI a1)]) (rest := []) (W := fun u_13 => wM g u_8) (rf := fun u_13 => zI u_13) (rm := zrM_part) cx (fun _ hq => tM_part hq) d_X12_thick_71 74 rfl kk_X12_part q_1851 q_1852 ⟨rfl, rfl⟩ ⟨Nat.le_of_ble_eq_true rfl, Nat.le_of_ble_eq_true rfl⟩ rfl rfl (Nat.le_of_ble_eq_true rfl) ⟨Nat.zero_le _, Nat.zero_le _⟩ h (fun u_13 h => ?_)
        refine z_sub [] rfl ?_
        exact hk_10 _ h
      · refine z_aload_n cx d_X12_thick_49 50 rfl rfl 0 rfl ?_
        refine z_get cx d_X12_thick_50 53 rfl e_M rfl zX12 34 (by decide) q_1395 rfl rfl ?_
        refine y_iconst cx d_X12_thick_53 54 rfl ?_
        refine y_ialdx cx d_X12_thick_54 55 rfl e_M_found (by decide) h (fun x_14 h => ?_)
        refine z_goto cx d_X12_thick_55 74 (by decide) ?_
        refine z_sub [] rfl ?_
        exact hk_10 _ h
    · refine z_sub [] rfl ?_
      exact hk_3  h
def zrM_crowded : Room := { frames := 2, cells := 0, slots := 0, locals := 45 }
set_option maxHeartbeats 4000000 in
theorem tM_crowded {l : Launch} {g : ZG} {M : ZB} {a1 : Int} {r : Int × ZB} (h : fM_crowded M a1 = some r) : zMi l yX12_crowded cX12_crowded 6 (some .int) zrM_crowded g [.ref (g.2.2 0), .int (zI a1)] (wM g M) (wM g r.2) (zI r.1) := by
  unfold fM_crowded at h
  refine zMi_q (own := RX12) rfl (by decide +kernel) (Nat.le_of_ble_eq_true rfl) (lv := [(0, .ref (g.2.2 0)), (1, .int (zI a1))]) rfl ⟨rfl, rfl⟩ ?_
  intro p e s m args below meth c A Q hQ cx
  refine z_aload_n cx d_X12_crowded_0 1 rfl rfl 0 rfl ?_
  refine y_iconst cx d_X12_crowded_1 2 rfl ?_
  refine y_put cx d_X12_crowded_2 5 rfl e_M rfl zX12 tyX12_ok nmX12 0 (by decide) q_1361 rfl rfl rfl rfl (Nat.le_of_ble_eq_true rfl) h (fun _ h9 => s_M_0 h9) (fun M_1 h => ?_)
  refine z_iload_n cx d_X12_crowded_5 6 rfl rfl 1 rfl ?_
  refine y_callS_i (As := [.int (zI a1)]) (rest := []) (W := fun u_2 => wM g M_1) (rf := fun u_2 => zI u_2) (rm := zrM_isCount) cx (fun _ hq => tM_isCount hq) d_X12_crowded_6 9 rfl kk_X12_isCount q_1812 q_1813 ⟨rfl, rfl⟩ ⟨Nat.le_of_ble_eq_true rfl, Nat.le_of_ble_eq_true rfl⟩ rfl rfl (Nat.le_of_ble_eq_true rfl) ⟨Nat.zero_le _, Nat.zero_le _⟩ h (fun u_2 h => ?_)
  refine y_if_ne cx d_X12_crowded_9 12 rfl 14 (by decide) rfl h (fun h => ?_) (fun h => ?_)
  · refine y_iconst cx d_X12_crowded_14 15 rfl ?_
    refine y_istore_n cx d_X12_crowded_15 16 rfl rfl (by decide) (lv' := [(2, .int (zI 0)), (0, .ref (g.2.2 0)), (1, .int (zI a1))]) rfl ?_
    refine y_iconst cx d_X12_crowded_16 17 rfl ?_
    refine y_istore_n cx d_X12_crowded_17 18 rfl rfl (by decide) (lv' := [(3, .int (zI 0)), (2, .int (zI 0)), (0, .ref (g.2.2 0)), (1, .int (zI a1))]) rfl ?_
    refine y_iconst cx d_X12_crowded_18 19 rfl ?_
    refine y_istore cx d_X12_crowded_19 21 rfl (by decide) (lv' := [(4, .int (zI 1)), (3, .int (zI 0)), (2, .int (zI 0)), (0, .ref (g.2.2 0)), (1, .int (zI a1))]) rfl ?_
    refine z_sub [3, 4, 2, 1, 0] rfl ?_
    refine lop3_f (P := fun (v2_3 : Int) (v3_4 : Int) (v4_5 : Int) => V p l e zrM_crowded s m args below meth c A s.heap g 6 Q (wM g M_1) 0 0 [(0, .ref (g.2.2 0)), (1, .int (zI a1)), (2, .int (zI v2_3)), (3, .int (zI v3_4)), (4, .int (zI v4_5))] 21 []) (fun rec_6 hrec_6 v2_3 v3_4 v4_5 h => ?_) _ _ _ _ h
    refine z_iload cx d_X12_crowded_21 23 rfl 4 rfl ?_
    refine y_iconst cx d_X12_crowded_23 24 rfl ?_
    refine z_aload_n cx d_X12_crowded_24 25 rfl rfl 0 rfl ?_
    refine y_callV_i (As := []) (rest := [.int (zI 1), .int (zI v4_5)]) (W := fun u_7 => wM g M_1) (rf := fun u_7 => zI u_7) (rm := zr0) cx (fun _ hq => tM_points hq) d_X12_crowded_25 28 rfl kk_X12_points q_1641 q_1643 q_73 rfl e_M rfl ⟨rfl, rfl⟩ ⟨Nat.le_of_ble_eq_true rfl, Nat.le_of_ble_eq_true rfl⟩ rfl rfl (Nat.le_of_ble_eq_true rfl) ⟨Nat.zero_le _, Nat.zero_le _⟩ h (fun u_7 h => ?_)
    refine y_ishl cx d_X12_crowded_28 29 rfl ?_
    refine y_icmp_ge cx d_X12_crowded_29 32 rfl 109 (by decide) rfl (nm_zshl _ _) h (fun h => ?_) (fun h => ?_)
    · refine z_iload_n cx d_X12_crowded_109 110 rfl rfl 2 rfl ?_
      subst hQ
      obtain rfl := Option.some.inj h
      exact z_iret cx d_X12_crowded_110 rfl rfl
    · refine z_iload cx d_X12_crowded_32 34 rfl 4 rfl ?_
      refine y_callS_i (As := [.int (zI v4_5)]) (rest := []) (W := fun u_8 => wM g M_1) (rf := fun u_8 => zI u_8) (rm := zr0) cx (fun _ hq => tM_bits hq) d_X12_crowded_34 37 rfl kk_X12_bits q_1649 q_1650 ⟨rfl, rfl⟩ ⟨Nat.le_of_ble_eq_true rfl, Nat.le_of_ble_eq_true rfl⟩ rfl rfl (Nat.le_of_ble_eq_true rfl) ⟨Nat.zero_le _, Nat.zero_le _⟩ h (fun u_8 h => ?_)
      refine y_iconst cx d_X12_crowded_37 38 rfl ?_
      refine kf2_f (P := fun (v2_9 : Int) (v3_10 : Int) => V p l e zrM_crowded s m args below meth c A s.heap g 6 Q (wM g M_1) 0 0 [(0, .ref (g.2.2 0)), (1, .int (zI a1)), (2, .int (zI v2_9)), (3, .int (zI v3_10)), (4, .int (zI v4_5))] 103 []) h (fun v2_9 v3_10 h => ?_) (fun k_11 hk_11 h => ?_)
      · refine y_iinc cx 4 d_X12_crowded_103 106 rfl rfl (by decide) (lv' := [(4, .int (zI (v4_5 + 1))), (0, .ref (g.2.2 0)), (1, .int (zI a1)), (2, .int (zI v2_9)), (3, .int (zI v3_10))]) rfl ?_
        refine z_goto cx d_X12_crowded_106 21 (by decide) ?_
        refine z_sub [1, 2, 3, 4, 0] rfl ?_
        exact hrec_6 _ _ _ h
      refine y_icmp_ge cx d_X12_crowded_38 41 rfl 44 (by decide) rfl (nm_eq (x := 2) (by decide) (by decide)) h (fun h => ?_) (fun h => ?_)
      · refine z_aload_n cx d_X12_crowded_44 45 rfl rfl 0 rfl ?_
        refine z_iload cx d_X12_crowded_45 47 rfl 4 rfl ?_
        refine z_aload_n cx d_X12_crowded_47 48 rfl rfl 0 rfl ?_
        refine y_callV_i (As := []) (rest := [.int (zI v4_5), .ref (g.2.2 0)]) (W := fun u_12 => wM g M_1) (rf := fun u_12 => zI u_12) (rm := zrM_sound) cx (fun _ hq => tM_sound hq) d_X12_crowded_48 51 rfl kk_X12_sound q_1645 q_1647 q_74 rfl e_M rfl ⟨rfl, rfl⟩ ⟨Nat.le_of_ble_eq_true rfl, Nat.le_of_ble_eq_true rfl⟩ rfl rfl (Nat.le_of_ble_eq_true rfl) ⟨Nat.zero_le _, Nat.zero_le _⟩ h (fun u_12 h => ?_)
        refine y_callV_i (As := [.int (zI v4_5), .int (zI u_12)]) (rest := []) (W := fun u_13 => wM g M_1) (rf := fun u_13 => zI u_13) (rm := zrM_inner) cx (fun _ hq => tM_inner hq) d_X12_crowded_51 54 rfl kk_X12_inner q_1823 q_1825 q_99 rfl e_M rfl ⟨rfl, rfl⟩ ⟨Nat.le_of_ble_eq_true rfl, Nat.le_of_ble_eq_true rfl⟩ rfl rfl (Nat.le_of_ble_eq_true rfl) ⟨Nat.zero_le _, Nat.zero_le _⟩ h (fun u_13 h => ?_)
        refine z_iload_n cx d_X12_crowded_54 55 rfl rfl 1 rfl ?_
        refine z_iload cx d_X12_crowded_55 57 rfl 4 rfl ?_
        refine y_callS_i (As := [.int (zI v4_5)]) (rest := [.int (zI a1), .int (zI u_13)]) (W := fun u_14 => wM g M_1) (rf := fun u_14 => zI u_14) (rm := zr0) cx (fun _ hq => tM_bits hq) d_X12_crowded_57 60 rfl kk_X12_bits q_1649 q_1650 ⟨rfl, rfl⟩ ⟨Nat.le_of_ble_eq_true rfl, Nat.le_of_ble_eq_true rfl⟩ rfl rfl (Nat.le_of_ble_eq_true rfl) ⟨Nat.zero_le _, Nat.zero_le _⟩ h (fun u_14 h => ?_)
        refine y_iconst cx d_X12_crowded_60 61 rfl ?_
        refine y_isub cx d_X12_crowded_61 62 rfl ?_
        refine y_imul cx d_X12_crowded_62 63 rfl ?_
        refine y_isub cx d_X12_crowded_63 64 rfl ?_
        refine y_istore_b cx d_X12_crowded_64 66 rfl (by decide) (fun y => [(5, .int (zI y)), (0, .ref (g.2.2 0)), (1, .int (zI a1)), (2, .int (zI v2_3)), (3, .int (zI v3_4)), (4, .int (zI v4_5))]) (fun y => rfl) h (fun v5_15 h => ?_)
        refine z_iload cx d_X12_crowded_66 68 rfl 0 rfl ?_
        refine z_iload_n cx d_X12_crowded_68 69 rfl rfl 4 rfl ?_
        refine y_icmp_lt cx d_X12_crowded_69 72 rfl 103 (by decide) rfl rfl h (fun h => ?_) (fun h => ?_)
        · refine z_sub [1, 2, 3, 4, 5] rfl ?_
          exact hk_11 _ _ h
        · refine z_iload cx d_X12_crowded_72 74 rfl 0 rfl ?_
          refine z_iload_n cx d_X12_crowded_74 75 rfl rfl 4 rfl ?_
          refine kf0_f (P := V p l e zrM_crowded s m args below meth c A s.heap g 6 Q (wM g M_1) 0 0 [(0, .ref (g.2.2 0)), (1, .int (zI a1)), (4, .int (zI v4_5)), (5, .int (zI v5_15))] 97 []) h (fun h => ?_) (fun k_16 hk_16 h => ?_)
          · refine z_iload cx d_X12_crowded_97 99 rfl 3 rfl ?_
            refine y_istore_n cx d_X12_crowded_99 100 rfl rfl (by decide) (lv' := [(3, .int (zI v5_15)), (0, .ref (g.2.2 0)), (1, .int (zI a1)), (4, .int (zI v4_5)), (5, .int (zI v5_15))]) rfl ?_
            refine z_iload cx d_X12_crowded_100 102 rfl 3 rfl ?_
            refine y_istore_n cx d_X12_crowded_102 103 rfl rfl (by decide) (lv' := [(2, .int (zI v4_5)), (3, .int (zI v5_15)), (0, .ref (g.2.2 0)), (1, .int (zI a1)), (4, .int (zI v4_5)), (5, .int (zI v5_15))]) rfl ?_
            refine z_sub [2, 3, 0, 1, 4] rfl ?_
            exact hk_11 _ _ h
          refine y_icmp_ne cx d_X12_crowded_75 78 rfl 97 (by decide) rfl rfl h (fun h => ?_) (fun h => ?_)
          · refine z_sub [1, 2, 5, 0] rfl ?_
            exact hk_16  h
          · refine z_iload_n cx d_X12_crowded_78 79 rfl rfl 3 rfl ?_
            refine y_if_eq cx d_X12_crowded_79 82 rfl 103 (by decide) rfl h (fun h => ?_) (fun h => ?_)
            · refine z_sub [1, 2, 3, 4, 5] rfl ?_
              exact hk_11 _ _ h
            · refine z_iload cx d_X12_crowded_82 84 rfl 5 rfl ?_
              refine y_callS_i (As := [.int (zI v4_5)]) (rest := []) (W := fun u_17 => wM g M_1) (rf := fun u_17 => zI u_17) (rm := zr0) cx (fun _ hq => tM_bits hq) d_X12_crowded_84 87 rfl kk_X12_bits q_1649 q_1650 ⟨rfl, rfl⟩ ⟨Nat.le_of_ble_eq_true rfl, Nat.le_of_ble_eq_true rfl⟩ rfl rfl (Nat.le_of_ble_eq_true rfl) ⟨Nat.zero_le _, Nat.zero_le _⟩ h (fun u_17 h => ?_)
              refine z_iload_n cx d_X12_crowded_87 88 rfl rfl 3 rfl ?_
              refine y_callS_i (As := [.int (zI v2_3)]) (rest := [.int (zI u_17)]) (W := fun u_18 => wM g M_1) (rf := fun u_18 => zI u_18) (rm := zr0) cx (fun _ hq => tM_bits hq) d_X12_crowded_88 91 rfl kk_X12_bits q_1649 q_1650 ⟨rfl, rfl⟩ ⟨Nat.le_of_ble_eq_true rfl, Nat.le_of_ble_eq_true rfl⟩ rfl rfl (Nat.le_of_ble_eq_true rfl) ⟨Nat.zero_le _, Nat.zero_le _⟩ h (fun u_18 h => ?_)
              refine y_icmp_lt cx d_X12_crowded_91 94 rfl 97 (by decide) rfl rfl h (fun h => ?_) (fun h => ?_)
              · refine z_sub [1, 2, 5, 0] rfl ?_
                exact hk_16  h
              · refine z_goto cx d_X12_crowded_94 103 (by decide) ?_
                refine z_sub [1, 2, 3, 4, 5] rfl ?_
                exact hk_11 _ _ h
      · refine z_goto cx d_X12_crowded_41 103 (by decide) ?_
        exact hk_11 _ _ h
  · refine y_iconst cx d_X12_crowded_12 13 rfl ?_
    subst hQ
    obtain rfl := Option.some.inj h
    exact z_iret cx d_X12_crowded_13 rfl rfl
def zrM_even : Room := { frames := 2, cells := 0, slots := 0, locals := 45 }
set_option maxHeartbeats 4000000 in
theorem tM_even {l : Launch} {g : ZG} {M : ZB}  {r : Int × ZB} (h : fM_even M = some r) : zMi l yX12_even cX12_even 4 (some .int) zrM_even g [.ref (g.2.2 0)] (wM g M) (wM g r.2) (zI r.1) := by
  unfold fM_even at h
  refine zMi_q (own := RX12) rfl (by decide +kernel) (Nat.le_of_ble_eq_true rfl) (lv := [(0, .ref (g.2.2 0))]) rfl ⟨rfl, rfl⟩ ?_
  intro p e s m args below meth c A Q hQ cx
  refine z_aload_n cx d_X12_even_0 1 rfl rfl 0 rfl ?_
  refine y_iconst cx d_X12_even_1 2 rfl ?_
  refine y_put cx d_X12_even_2 5 rfl e_M rfl zX12 tyX12_ok nmX12 0 (by decide) q_1361 rfl rfl rfl rfl (Nat.le_of_ble_eq_true rfl) h (fun _ h9 => s_M_0 h9) (fun M_1 h => ?_)
  refine y_iconst cx d_X12_even_5 6 rfl ?_
  refine y_istore_n cx d_X12_even_6 7 rfl rfl (by decide) (lv' := [(1, .int (zI 0)), (0, .ref (g.2.2 0))]) rfl ?_
  refine y_iconst cx d_X12_even_7 8 rfl ?_
  refine y_istore_n cx d_X12_even_8 9 rfl rfl (by decide) (lv' := [(2, .int (zI 1)), (1, .int (zI 0)), (0, .ref (g.2.2 0))]) rfl ?_
  refine z_sub [2, 1, 0] rfl ?_
  refine lop2_f (P := fun (v1_2 : Int) (v2_3 : Int) => V p l e zrM_even s m args below meth c A s.heap g 4 Q (wM g M_1) 0 0 [(0, .ref (g.2.2 0)), (1, .int (zI v1_2)), (2, .int (zI v2_3))] 9 []) (fun rec_4 hrec_4 v1_2 v2_3 h => ?_) _ _ _ h
  refine z_iload_n cx d_X12_even_9 10 rfl rfl 2 rfl ?_
  refine y_iconst cx d_X12_even_10 11 rfl ?_
  refine z_aload_n cx d_X12_even_11 12 rfl rfl 0 rfl ?_
  refine y_callV_i (As := []) (rest := [.int (zI 1), .int (zI v2_3)]) (W := fun u_5 => wM g M_1) (rf := fun u_5 => zI u_5) (rm := zr0) cx (fun _ hq => tM_points hq) d_X12_even_12 15 rfl kk_X12_points q_1641 q_1643 q_73 rfl e_M rfl ⟨rfl, rfl⟩ ⟨Nat.le_of_ble_eq_true rfl, Nat.le_of_ble_eq_true rfl⟩ rfl rfl (Nat.le_of_ble_eq_true rfl) ⟨Nat.zero_le _, Nat.zero_le _⟩ h (fun u_5 h => ?_)
  refine y_ishl cx d_X12_even_15 16 rfl ?_
  refine y_icmp_ge cx d_X12_even_16 19 rfl 54 (by decide) rfl (nm_zshl _ _) h (fun h => ?_) (fun h => ?_)
  · refine z_iload_n cx d_X12_even_54 55 rfl rfl 1 rfl ?_
    subst hQ
    obtain rfl := Option.some.inj h
    exact z_iret cx d_X12_even_55 rfl rfl
  · refine z_aload_n cx d_X12_even_19 20 rfl rfl 0 rfl ?_
    refine z_iload_n cx d_X12_even_20 21 rfl rfl 2 rfl ?_
    refine z_aload_n cx d_X12_even_21 22 rfl rfl 0 rfl ?_
    refine y_callV_i (As := []) (rest := [.int (zI v2_3), .ref (g.2.2 0)]) (W := fun u_6 => wM g M_1) (rf := fun u_6 => zI u_6) (rm := zrM_sound) cx (fun _ hq => tM_sound hq) d_X12_even_22 25 rfl kk_X12_sound q_1645 q_1647 q_74 rfl e_M rfl ⟨rfl, rfl⟩ ⟨Nat.le_of_ble_eq_true rfl, Nat.le_of_ble_eq_true rfl⟩ rfl rfl (Nat.le_of_ble_eq_true rfl) ⟨Nat.zero_le _, Nat.zero_le _⟩ h (fun u_6 h => ?_)
    refine y_callV_i (As := [.int (zI v2_3), .int (zI u_6)]) (rest := []) (W := fun u_7 => wM g M_1) (rf := fun u_7 => zI u_7) (rm := zrM_inner) cx (fun _ hq => tM_inner hq) d_X12_even_25 28 rfl kk_X12_inner q_1823 q_1825 q_99 rfl e_M rfl ⟨rfl, rfl⟩ ⟨Nat.le_of_ble_eq_true rfl, Nat.le_of_ble_eq_true rfl⟩ rfl rfl (Nat.le_of_ble_eq_true rfl) ⟨Nat.zero_le _, Nat.zero_le _⟩ h (fun u_7 h => ?_)
    refine z_iload_n cx d_X12_even_28 29 rfl rfl 2 rfl ?_
    refine y_callS_i (As := [.int (zI v2_3)]) (rest := [.int (zI u_7)]) (W := fun u_8 => wM g M_1) (rf := fun u_8 => zI u_8) (rm := zr0) cx (fun _ hq => tM_bits hq) d_X12_even_29 32 rfl kk_X12_bits q_1649 q_1650 ⟨rfl, rfl⟩ ⟨Nat.le_of_ble_eq_true rfl, Nat.le_of_ble_eq_true rfl⟩ rfl rfl (Nat.le_of_ble_eq_true rfl) ⟨Nat.zero_le _, Nat.zero_le _⟩ h (fun u_8 h => ?_)
    refine y_iadd cx d_X12_even_32 33 rfl ?_
    refine y_iconst cx d_X12_even_33 34 rfl ?_
    refine y_isub cx d_X12_even_34 35 rfl ?_
    refine z_iload_n cx d_X12_even_35 36 rfl rfl 2 rfl ?_
    refine y_callS_i (As := [.int (zI v2_3)]) (rest := [.int (zI ((u_7 + u_8) - 1))]) (W := fun u_9 => wM g M_1) (rf := fun u_9 => zI u_9) (rm := zr0) cx (fun _ hq => tM_bits hq) d_X12_even_36 39 rfl kk_X12_bits q_1649 q_1650 ⟨rfl, rfl⟩ ⟨Nat.le_of_ble_eq_true rfl, Nat.le_of_ble_eq_true rfl⟩ rfl rfl (Nat.le_of_ble_eq_true rfl) ⟨Nat.zero_le _, Nat.zero_le _⟩ h (fun u_9 h => ?_)
    refine y_idiv cx d_X12_even_39 40 rfl h (fun h => ?_)
    refine y_istore_n_b cx d_X12_even_40 41 rfl rfl (by decide) (fun y => [(3, .int (zI y)), (0, .ref (g.2.2 0)), (1, .int (zI v1_2)), (2, .int (zI v2_3))]) (fun y => rfl) h (fun v3_10 h => ?_)
    refine z_iload_n cx d_X12_even_41 42 rfl rfl 0 rfl ?_
    refine z_iload_n cx d_X12_even_42 43 rfl rfl 2 rfl ?_
    refine kf1_f (P := fun (v1_11 : Int) => V p l e zrM_even s m args below meth c A s.heap g 4 Q (wM g M_1) 0 0 [(0, .ref (g.2.2 0)), (1, .int (zI v1_11)), (2, .int (zI v2_3))] 48 []) h (fun v1_11 h => ?_) (fun k_12 hk_12 h => ?_)
    · refine y_iinc cx 2 d_X12_even_48 51 rfl rfl (by decide) (lv' := [(2, .int (zI (v2_3 + 1))), (0, .ref (g.2.2 0)), (1, .int (zI v1_11))]) rfl ?_
      refine z_goto cx d_X12_even_51 9 (by decide) ?_
      refine z_sub [1, 2, 0] rfl ?_
      exact hrec_4 _ _ h
    refine y_icmp_le cx d_X12_even_43 46 rfl 48 (by decide) rfl rfl h (fun h => ?_) (fun h => ?_)
    · refine z_sub [1, 2, 3] rfl ?_
      exact hk_12 _ h
    · refine z_iload_n cx d_X12_even_46 47 rfl rfl 0 rfl ?_
      refine y_istore_n cx d_X12_even_47 48 rfl rfl (by decide) (lv' := [(1, .int (zI v3_10)), (3, .int (zI v3_10)), (0, .ref (g.2.2 0)), (2, .int (zI v2_3))]) rfl ?_
      refine z_sub [2, 0, 3] rfl ?_
      exact hk_12 _ h
def zrM_vital : Room := { frames := 4, cells := 0, slots := 0, locals := 93 }
set_option maxHeartbeats 4000000 in
theorem tM_vital {l : Launch} {g : ZG} {M : ZB}  {r : Int × ZB} (h : fM_vital M = some r) : zMi l yX12_vital cX12_vital 5 (some .int) zrM_vital g [.ref (g.2.2 0)] (wM g M) (wM g r.2) (zI r.1) := by
  unfold fM_vital at h
  refine zMi_q (own := RX12) rfl (by decide +kernel) (Nat.le_of_ble_eq_true rfl) (lv := [(0, .ref (g.2.2 0))]) rfl ⟨rfl, rfl⟩ ?_
  intro p e s m args below meth c A Q hQ cx
  refine z_aload_n cx d_X12_vital_0 1 rfl rfl 0 rfl ?_
  refine y_iconst cx d_X12_vital_1 2 rfl ?_
  refine y_put cx d_X12_vital_2 5 rfl e_M rfl zX12 tyX12_ok nmX12 0 (by decide) q_1361 rfl rfl rfl rfl (Nat.le_of_ble_eq_true rfl) h (fun _ h9 => s_M_0 h9) (fun M_1 h => ?_)
  refine z_aload_n cx d_X12_vital_5 6 rfl rfl 0 rfl ?_
  refine y_callV_i (As := []) (rest := []) (W := fun u_2 => wM g M_1) (rf := fun u_2 => zI u_2) (rm := zrM_sound) cx (fun _ hq => tM_sound hq) d_X12_vital_6 9 rfl kk_X12_sound q_1645 q_1647 q_74 rfl e_M rfl ⟨rfl, rfl⟩ ⟨Nat.le_of_ble_eq_true rfl, Nat.le_of_ble_eq_true rfl⟩ rfl rfl (Nat.le_of_ble_eq_true rfl) ⟨Nat.zero_le _, Nat.zero_le _⟩ h (fun u_2 h => ?_)
  refine y_istore_n cx d_X12_vital_9 10 rfl rfl (by decide) (lv' := [(1, .int (zI u_2)), (0, .ref (g.2.2 0))]) rfl ?_
  refine z_aload_n cx d_X12_vital_10 11 rfl rfl 1 rfl ?_
  refine z_iload_n cx d_X12_vital_11 12 rfl rfl 0 rfl ?_
  refine z_aload_n cx d_X12_vital_12 13 rfl rfl 1 rfl ?_
  refine y_callV_i (As := []) (rest := [.int (zI u_2), .ref (g.2.2 0)]) (W := fun u_3 => wM g M_1) (rf := fun u_3 => zI u_3) (rm := zr0) cx (fun _ hq => tM_many hq) d_X12_vital_13 16 rfl kk_X12_many q_1574 q_1576 q_61 rfl e_M rfl ⟨rfl, rfl⟩ ⟨Nat.le_of_ble_eq_true rfl, Nat.le_of_ble_eq_true rfl⟩ rfl rfl (Nat.le_of_ble_eq_true rfl) ⟨Nat.zero_le _, Nat.zero_le _⟩ h (fun u_3 h => ?_)
  refine y_callV_i (As := [.int (zI u_2), .int (zI u_3)]) (rest := []) (W := fun u_4 => wM g M_1) (rf := fun u_4 => zI u_4) (rm := zrM_chosen) cx (fun _ hq => tM_chosen hq) d_X12_vital_16 19 rfl kk_X12_chosen q_1815 q_1817 q_97 rfl e_M rfl ⟨rfl, rfl⟩ ⟨Nat.le_of_ble_eq_true rfl, Nat.le_of_ble_eq_true rfl⟩ rfl rfl (Nat.le_of_ble_eq_true rfl) ⟨Nat.zero_le _, Nat.zero_le _⟩ h (fun u_4 h => ?_)
  refine y_callS_i (As := [.int (zI u_4)]) (rest := []) (W := fun u_5 => wM g M_1) (rf := fun u_5 => zI u_5) (rm := zr0) cx (fun _ hq => tM_bits hq) d_X12_vital_19 22 rfl kk_X12_bits q_1649 q_1650 ⟨rfl, rfl⟩ ⟨Nat.le_of_ble_eq_true rfl, Nat.le_of_ble_eq_true rfl⟩ rfl rfl (Nat.le_of_ble_eq_true rfl) ⟨Nat.zero_le _, Nat.zero_le _⟩ h (fun u_5 h => ?_)
  refine y_istore_n cx d_X12_vital_22 23 rfl rfl (by decide) (lv' := [(2, .int (zI u_5)), (1, .int (zI u_2)), (0, .ref (g.2.2 0))]) rfl ?_
  refine y_iconst cx d_X12_vital_23 24 rfl ?_
  refine y_istore_n cx d_X12_vital_24 25 rfl rfl (by decide) (lv' := [(3, .int (zI 0)), (2, .int (zI u_5)), (1, .int (zI u_2)), (0, .ref (g.2.2 0))]) rfl ?_
  refine y_iconst cx d_X12_vital_25 26 rfl ?_
  refine y_istore cx d_X12_vital_26 28 rfl (by decide) (lv' := [(4, .int (zI 0)), (3, .int (zI 0)), (2, .int (zI u_5)), (1, .int (zI u_2)), (0, .ref (g.2.2 0))]) rfl ?_
  refine z_sub [4, 3, 2, 1, 0] rfl ?_
  refine lop2_f (P := fun (v3_6 : Int) (v4_7 : Int) => V p l e zrM_vital s m args below meth c A s.heap g 5 Q (wM g M_1) 0 0 [(0, .ref (g.2.2 0)), (1, .int (zI u_2)), (2, .int (zI u_5)), (3, .int (zI v3_6)), (4, .int (zI v4_7))] 28 []) (fun rec_8 hrec_8 v3_6 v4_7 h => ?_) _ _ _ h
  refine z_iload cx d_X12_vital_28 30 rfl 4 rfl ?_
  refine z_aload_n cx d_X12_vital_30 31 rfl rfl 0 rfl ?_
  refine y_callV_i (As := []) (rest := [.int (zI v4_7)]) (W := fun u_9 => wM g M_1) (rf := fun u_9 => zI u_9) (rm := zr0) cx (fun _ hq => tM_lines hq) d_X12_vital_31 34 rfl kk_X12_lines q_1582 q_1584 q_63 rfl e_M rfl ⟨rfl, rfl⟩ ⟨Nat.le_of_ble_eq_true rfl, Nat.le_of_ble_eq_true rfl⟩ rfl rfl (Nat.le_of_ble_eq_true rfl) ⟨Nat.zero_le _, Nat.zero_le _⟩ h (fun u_9 h => ?_)
  refine y_icmp_ge cx d_X12_vital_34 37 rfl 82 (by decide) rfl rfl h (fun h => ?_) (fun h => ?_)
  · refine z_iload_n cx d_X12_vital_82 83 rfl rfl 3 rfl ?_
    subst hQ
    obtain rfl := Option.some.inj h
    exact z_iret cx d_X12_vital_83 rfl rfl
  · refine z_iload_n cx d_X12_vital_37 38 rfl rfl 1 rfl ?_
    refine z_iload cx d_X12_vital_38 40 rfl 4 rfl ?_
    refine y_callS_i (As := [.int (zI u_2), .int (zI v4_7)]) (rest := []) (W := fun u_10 => wM g M_1) (rf := fun u_10 => zI u_10) (rm := zr0) cx (fun _ hq => tM_has hq) d_X12_vital_40 43 rfl kk_X12_has q_1626 q_1627 ⟨rfl, rfl⟩ ⟨Nat.le_of_ble_eq_true rfl, Nat.le_of_ble_eq_true rfl⟩ rfl rfl (Nat.le_of_ble_eq_true rfl) ⟨Nat.zero_le _, Nat.zero_le _⟩ h (fun u_10 h => ?_)
    refine kf1_f (P := fun (v3_11 : Int) => V p l e zrM_vital s m args below meth c A s.heap g 5 Q (wM g M_1) 0 0 [(0, .ref (g.2.2 0)), (1, .int (zI u_2)), (2, .int (zI u_5)), (3, .int (zI v3_11)), (4, .int (zI v4_7))] 76 []) h (fun v3_11 h => ?_) (fun k_12 hk_12 h => ?_)
    · refine y_iinc cx 4 d_X12_vital_76 79 rfl rfl (by decide) (lv' := [(4, .int (zI (v4_7 + 1))), (0, .ref (g.2.2 0)), (1, .int (zI u_2)), (2, .int (zI u_5)), (3, .int (zI v3_11))]) rfl ?_
      refine z_goto cx d_X12_vital_79 28 (by decide) ?_
      refine z_sub [1, 2, 3, 4, 0] rfl ?_
      exact hrec_8 _ _ h
    refine y_if_eq cx d_X12_vital_43 46 rfl 76 (by decide) rfl h (fun h => ?_) (fun h => ?_)
    · exact hk_12 _ h
    · refine z_aload_n cx d_X12_vital_46 47 rfl rfl 0 rfl ?_
      refine z_iload_n cx d_X12_vital_47 48 rfl rfl 1 rfl ?_
      refine y_iconst cx d_X12_vital_48 49 rfl ?_
      refine z_iload cx d_X12_vital_49 51 rfl 4 rfl ?_
      refine y_ishl cx d_X12_vital_51 52 rfl ?_
      refine y_iconst cx d_X12_vital_52 53 rfl ?_
      refine y_ixor cx d_X12_vital_53 54 rfl ?_
      refine y_iand cx d_X12_vital_54 55 rfl ?_
      refine z_aload_n cx d_X12_vital_55 56 rfl rfl 0 rfl ?_
      refine y_callV_i (As := []) (rest := [.int (zI (zand u_2 (zxor (zshl 1 v4_7) (-1)))), .ref (g.2.2 0)]) (W := fun u_13 => wM g M_1) (rf := fun u_13 => zI u_13) (rm := zr0) cx (fun _ hq => tM_many hq) d_X12_vital_56 59 rfl kk_X12_many q_1574 q_1576 q_61 rfl e_M rfl ⟨rfl, rfl⟩ ⟨Nat.le_of_ble_eq_true rfl, Nat.le_of_ble_eq_true rfl⟩ rfl rfl (Nat.le_of_ble_eq_true rfl) ⟨Nat.zero_le _, Nat.zero_le _⟩ h (fun u_13 h => ?_)
      refine y_callV_i (As := [.int (zI (zand u_2 (zxor (zshl 1 v4_7) (-1)))), .int (zI u_13)]) (rest := []) (W := fun u_14 => wM g M_1) (rf := fun u_14 => zI u_14) (rm := zrM_chosen) cx (fun _ hq => tM_chosen hq) d_X12_vital_59 62 rfl kk_X12_chosen q_1815 q_1817 q_97 rfl e_M rfl ⟨rfl, rfl⟩ ⟨Nat.le_of_ble_eq_true rfl, Nat.le_of_ble_eq_true rfl⟩ rfl rfl (Nat.le_of_ble_eq_true rfl) ⟨Nat.zero_le _, Nat.zero_le _⟩ h (fun u_14 h => ?_)
      refine y_callS_i (As := [.int (zI u_14)]) (rest := []) (W := fun u_15 => wM g M_1) (rf := fun u_15 => zI u_15) (rm := zr0) cx (fun _ hq => tM_bits hq) d_X12_vital_62 65 rfl kk_X12_bits q_1649 q_1650 ⟨rfl, rfl⟩ ⟨Nat.le_of_ble_eq_true rfl, Nat.le_of_ble_eq_true rfl⟩ rfl rfl (Nat.le_of_ble_eq_true rfl) ⟨Nat.zero_le _, Nat.zero_le _⟩ h (fun u_15 h => ?_)
      refine z_iload_n cx d_X12_vital_65 66 rfl rfl 2 rfl ?_
      refine y_icmp_ge cx d_X12_vital_66 69 rfl 76 (by decide) rfl rfl h (fun h => ?_) (fun h => ?_)
      · exact hk_12 _ h
      · refine z_iload_n cx d_X12_vital_69 70 rfl rfl 3 rfl ?_
        refine y_iconst cx d_X12_vital_70 71 rfl ?_
        refine z_iload cx d_X12_vital_71 73 rfl 4 rfl ?_
        refine y_ishl cx d_X12_vital_73 74 rfl ?_
        refine y_ior cx d_X12_vital_74 75 rfl ?_
        refine y_istore_n_b cx d_X12_vital_75 76 rfl rfl (by decide) (fun y => [(3, .int (zI y)), (0, .ref (g.2.2 0)), (1, .int (zI u_2)), (2, .int (zI u_5)), (4, .int (zI v4_7))]) (fun y => rfl) h (fun v3_16 h => ?_)
        refine z_sub [1, 2, 3, 0, 4] rfl ?_
        exact hk_12 _ h
def zrM_isLatest : Room := { frames := 1, cells := 0, slots := 0, locals := 21 }
set_option maxHeartbeats 4000000 in
theorem tM_isLatest {l : Launch} {g : ZG} {M : ZB} {a1 : Int} {a2 : Int} {r : Int} (h : fM_isLatest M a1 a2 = some r) : zMi l yX12_isLatest cX12_isLatest 3 (some .boolean) zrM_isLatest g [.ref (g.2.2 0), .int (zI a1), .int (zI a2)] (wM g M) (wM g M) (zI r) := by
  unfold fM_isLatest at h
  refine zMi_q (own := RX12) rfl (by decide +kernel) (Nat.le_of_ble_eq_true rfl) (lv := [(0, .ref (g.2.2 0)), (1, .int (zI a1)), (2, .int (zI a2))]) rfl ⟨rfl, rfl⟩ ?_
  intro p e s m args below meth c A Q hQ cx
  refine z_aload_n cx d_X12_isLatest_0 1 rfl rfl 0 rfl ?_
  refine z_iload_n cx d_X12_isLatest_1 2 rfl rfl 1 rfl ?_
  refine y_callV_i (As := [.int (zI a1)]) (rest := []) (W := fun u_1 => wM g M) (rf := fun u_1 => zI u_1) (rm := zr0) cx (fun _ hq => tM_ends hq) d_X12_isLatest_2 5 rfl kk_X12_ends q_1629 q_1631 q_72 rfl e_M rfl ⟨rfl, rfl⟩ ⟨Nat.le_of_ble_eq_true rfl, Nat.le_of_ble_eq_true rfl⟩ rfl rfl (Nat.le_of_ble_eq_true rfl) ⟨Nat.zero_le _, Nat.zero_le _⟩ h (fun u_1 h => ?_)
  refine z_iload_n cx d_X12_isLatest_5 6 rfl rfl 2 rfl ?_
  refine y_callS_i (As := [.int (zI u_1), .int (zI a2)]) (rest := []) (W := fun u_2 => wM g M) (rf := fun u_2 => zI u_2) (rm := zr0) cx (fun _ hq => tM_has hq) d_X12_isLatest_6 9 rfl kk_X12_has q_1626 q_1627 ⟨rfl, rfl⟩ ⟨Nat.le_of_ble_eq_true rfl, Nat.le_of_ble_eq_true rfl⟩ rfl rfl (Nat.le_of_ble_eq_true rfl) ⟨Nat.zero_le _, Nat.zero_le _⟩ h (fun u_2 h => ?_)
  refine kf1_f (P := fun (w0_3 : Int) => V p l e zrM_isLatest s m args below meth c A s.heap g 3 Q (wM g M) 0 0 [] 28 [.int (zI w0_3)]) h (fun w0_3 h => ?_) (fun k_4 hk_4 h => ?_)
  · obtain ⟨hz, h⟩ := zo_i h
    subst hQ
    obtain rfl := Option.some.inj h
    exact z_zret cx d_X12_isLatest_28 (zb01 hz) rfl rfl
  refine kf0_f (P := V p l e zrM_isLatest s m args below meth c A s.heap g 3 Q (wM g M) 0 0 [] 27 []) h (fun h => ?_) (fun k_5 hk_5 h => ?_)
  · refine y_iconst cx d_X12_isLatest_27 28 rfl ?_
    exact hk_4 _ h
  refine y_if_eq cx d_X12_isLatest_9 12 rfl 27 (by decide) rfl h (fun h => ?_) (fun h => ?_)
  · refine z_sub [] rfl ?_
    exact hk_5  h
  · refine z_aload_n cx d_X12_isLatest_12 13 rfl rfl 0 rfl ?_
    refine z_iload_n cx d_X12_isLatest_13 14 rfl rfl 1 rfl ?_
    refine y_callV_i (As := [.int (zI a1)]) (rest := []) (W := fun u_6 => wM g M) (rf := fun u_6 => zI u_6) (rm := zr0) cx (fun _ hq => tM_ends hq) d_X12_isLatest_14 17 rfl kk_X12_ends q_1629 q_1631 q_72 rfl e_M rfl ⟨rfl, rfl⟩ ⟨Nat.le_of_ble_eq_true rfl, Nat.le_of_ble_eq_true rfl⟩ rfl rfl (Nat.le_of_ble_eq_true rfl) ⟨Nat.zero_le _, Nat.zero_le _⟩ h (fun u_6 h => ?_)
    refine y_iconst cx d_X12_isLatest_17 18 rfl ?_
    refine z_iload_n cx d_X12_isLatest_18 19 rfl rfl 2 rfl ?_
    refine y_ishl cx d_X12_isLatest_19 20 rfl ?_
    refine y_icmp_ge cx d_X12_isLatest_20 23 rfl 27 (by decide) rfl (nm_zshl _ _) h (fun h => ?_) (fun h => ?_)
    · refine z_sub [] rfl ?_
      exact hk_5  h
    · refine y_iconst cx d_X12_isLatest_23 24 rfl ?_
      refine z_goto cx d_X12_isLatest_24 28 (by decide) ?_
      refine z_sub [] rfl ?_
      exact hk_4 _ h
def zrM_parts (n : Nat) : Room := { frames := n + 2, cells := 0, slots := 0, locals := n * 26 + 43 }
theorem zrM_parts_step (n : Nat) : 8 + (7 + 11) + (zrM_parts n).locals ≤ (zrM_parts (n + 1)).locals := by simp only [zrM_parts]; omega
theorem zrM_parts_fr (n k : Nat) (h : k ≤ 3) : k ≤ (zrM_parts (n + 1)).frames := by simp only [zrM_parts]; omega
theorem zrM_parts_lo (n k : Nat) (h : k ≤ 69) : k ≤ (zrM_parts (n + 1)).locals := by simp only [zrM_parts]; omega
set_option maxHeartbeats 4000000 in
theorem tM_parts {l : Launch} {g : ZG} : ∀ {n : Nat} {M : ZB} {a1 : Int} {a2 : Int} {a3 : Int} {r : ZB} (_ : fM_parts n M a1 a2 a3 = some r), zMv l yX12_parts cX12_parts 7 none (zrM_parts n) g [.ref (g.2.2 0), .int (zI a1), .int (zI a2), .int (zI a3)] (wM g M) (wM g r) := by
  intro n
  induction n with
  | zero => intro M a1 a2 a3 r h; exact absurd h (by simp [fM_parts])
  | succ n ih =>
    intro M a1 a2 a3 r h
    replace h := (show _ = some r from h)
    unfold fM_parts at h
    refine zMv_q (own := RX12) rfl (by decide +kernel) (Nat.le_of_ble_eq_true rfl) (lv := [(0, .ref (g.2.2 0)), (1, .int (zI a1)), (2, .int (zI a2)), (3, .int (zI a3))]) rfl ⟨rfl, rfl⟩ ?_
    intro p e s m args below meth c A Q hQ cx
    refine z_iload_n cx d_X12_parts_0 1 rfl rfl 1 rfl ?_
    refine z_aload_n cx d_X12_parts_1 2 rfl rfl 0 rfl ?_
    refine y_callV_i (As := []) (rest := [.int (zI a1)]) (W := fun u_1 => wM g M) (rf := fun u_1 => zI u_1) (rm := zr0) cx (fun _ hq => tM_points hq) d_X12_parts_2 5 rfl kk_X12_points q_1641 q_1643 q_73 rfl e_M rfl ⟨rfl, rfl⟩ ⟨zrM_parts_fr n _ (Nat.le_of_ble_eq_true rfl), zrM_parts_lo n _ (Nat.le_of_ble_eq_true rfl)⟩ rfl rfl (Nat.le_of_ble_eq_true rfl) ⟨Nat.zero_le _, Nat.zero_le _⟩ h (fun u_1 h => ?_)
    refine y_icmp_ne cx d_X12_parts_5 8 rfl 74 (by decide) rfl rfl h (fun h => ?_) (fun h => ?_)
    · refine y_iconst cx d_X12_parts_74 75 rfl ?_
      refine y_istore cx d_X12_parts_75 77 rfl (by decide) (lv' := [(4, .int (zI 0)), (0, .ref (g.2.2 0)), (1, .int (zI a1)), (2, .int (zI a2)), (3, .int (zI a3))]) rfl ?_
      refine z_sub [1, 2, 3, 4, 0] rfl ?_
      refine lop2_f (P := fun (v4_2 : Int) (M_3 : ZB) => V p l e (zrM_parts (n + 1)) s m args below meth c A s.heap g 7 Q (wM g M_3) 0 0 [(0, .ref (g.2.2 0)), (1, .int (zI a1)), (2, .int (zI a2)), (3, .int (zI a3)), (4, .int (zI v4_2))] 77 []) (fun rec_4 hrec_4 v4_2 M_3 h => ?_) _ _ _ h
      refine z_iload cx d_X12_parts_77 79 rfl 4 rfl ?_
      refine z_iload_n cx d_X12_parts_79 80 rfl rfl 2 rfl ?_
      refine y_icmp_gt cx d_X12_parts_80 83 rfl 196 (by decide) rfl rfl h (fun h => ?_) (fun h => ?_)
      · subst hQ
        obtain rfl := Option.some.inj h
        exact z_vret cx d_X12_parts_196 rfl
      · refine z_aload_n cx d_X12_parts_83 84 rfl rfl 0 rfl ?_
        refine z_get cx d_X12_parts_84 87 rfl e_M rfl zX12 36 (by decide) q_1397 rfl rfl ?_
        refine z_iload_n cx d_X12_parts_87 88 rfl rfl 1 rfl ?_
        refine z_iload cx d_X12_parts_88 90 rfl 4 rfl ?_
        refine y_iast cx d_X12_parts_90 91 rfl e_M_pieceOf (by decide) h (fun _ h9 => s_M_pieceOf h9) (fun M_5 h => ?_)
        refine y_iconst cx d_X12_parts_91 92 rfl ?_
        refine y_istore cx d_X12_parts_92 94 rfl (by decide) (lv' := [(5, .int (zI 0)), (0, .ref (g.2.2 0)), (1, .int (zI a1)), (2, .int (zI a2)), (3, .int (zI a3)), (4, .int (zI v4_2))]) rfl ?_
        refine y_iconst cx d_X12_parts_94 95 rfl ?_
        refine y_istore cx d_X12_parts_95 97 rfl (by decide) (lv' := [(6, .int (zI 0)), (5, .int (zI 0)), (0, .ref (g.2.2 0)), (1, .int (zI a1)), (2, .int (zI a2)), (3, .int (zI a3)), (4, .int (zI v4_2))]) rfl ?_
        refine z_sub [2, 3, 4, 5, 6, 1, 0] rfl ?_
        refine lop2_f (P := fun (v5_6 : Int) (v6_7 : Int) => V p l e (zrM_parts (n + 1)) s m args below meth c A s.heap g 7 Q (wM g M_5) 0 0 [(0, .ref (g.2.2 0)), (1, .int (zI a1)), (2, .int (zI a2)), (3, .int (zI a3)), (4, .int (zI v4_2)), (5, .int (zI v5_6)), (6, .int (zI v6_7))] 97 []) (fun rec_8 hrec_8 v5_6 v6_7 h => ?_) _ _ _ h
        refine z_iload cx d_X12_parts_97 99 rfl 6 rfl ?_
        refine z_aload_n cx d_X12_parts_99 100 rfl rfl 0 rfl ?_
        refine y_callV_i (As := []) (rest := [.int (zI v6_7)]) (W := fun u_9 => wM g M_5) (rf := fun u_9 => zI u_9) (rm := zr0) cx (fun _ hq => tM_lines hq) d_X12_parts_100 103 rfl kk_X12_lines q_1582 q_1584 q_63 rfl e_M rfl ⟨rfl, rfl⟩ ⟨zrM_parts_fr n _ (Nat.le_of_ble_eq_true rfl), zrM_parts_lo n _ (Nat.le_of_ble_eq_true rfl)⟩ rfl rfl (Nat.le_of_ble_eq_true rfl) ⟨Nat.zero_le _, Nat.zero_le _⟩ h (fun u_9 h => ?_)
        refine y_icmp_ge cx d_X12_parts_103 106 rfl 166 (by decide) rfl rfl h (fun h => ?_) (fun h => ?_)
        · refine z_aload_n cx d_X12_parts_166 167 rfl rfl 0 rfl ?_
          refine z_iload_n cx d_X12_parts_167 168 rfl rfl 1 rfl ?_
          refine y_iconst cx d_X12_parts_168 169 rfl ?_
          refine y_iadd cx d_X12_parts_169 170 rfl ?_
          refine z_iload cx d_X12_parts_170 172 rfl 4 rfl ?_
          refine z_iload_n cx d_X12_parts_172 173 rfl rfl 2 rfl ?_
          refine kf1_f (P := fun (w2_10 : Int) => V p l e (zrM_parts (n + 1)) s m args below meth c A s.heap g 7 Q (wM g M_5) 0 0 [(0, .ref (g.2.2 0)), (1, .int (zI a1)), (2, .int (zI a2)), (3, .int (zI a3)), (4, .int (zI v4_2)), (5, .int (zI v5_6))] 183 [.int (zI w2_10), .int (zI (a1 + 1)), .ref (g.2.2 0)]) h (fun w2_10 h => ?_) (fun k_11 hk_11 h => ?_)
          · refine z_iload_n cx d_X12_parts_183 184 rfl rfl 3 rfl ?_
            refine z_iload cx d_X12_parts_184 186 rfl 5 rfl ?_
            refine y_iadd cx d_X12_parts_186 187 rfl ?_
            refine y_callV_v (As := [.int (zI (a1 + 1)), .int (zI w2_10), .int (zI (a3 + v5_6))]) (rest := []) (W := fun u_12 => wM g u_12) (rm := (zrM_parts n)) cx (fun _ hq => ih hq) d_X12_parts_187 190 rfl kk_X12_parts q_1873 q_1875 q_103 rfl e_M rfl ⟨rfl, rfl⟩ ⟨Nat.le_refl _, zrM_parts_step n⟩ rfl rfl (Nat.le_of_ble_eq_true rfl) ⟨Nat.zero_le _, Nat.zero_le _⟩ h (fun u_12 h => ?_)
            refine y_iinc cx 4 d_X12_parts_190 193 rfl rfl (by decide) (lv' := [(4, .int (zI (v4_2 + 1))), (0, .ref (g.2.2 0)), (1, .int (zI a1)), (2, .int (zI a2)), (3, .int (zI a3)), (5, .int (zI v5_6))]) rfl ?_
            refine z_goto cx d_X12_parts_193 77 (by decide) ?_
            refine z_sub [1, 2, 3, 4, 0] rfl ?_
            exact hrec_4 _ _ h
          refine y_icmp_ne cx d_X12_parts_173 176 rfl 182 (by decide) rfl rfl h (fun h => ?_) (fun h => ?_)
          · refine z_iload_n cx d_X12_parts_182 183 rfl rfl 2 rfl ?_
            refine z_sub [0, 1, 2, 3, 4, 5] rfl ?_
            exact hk_11 _ h
          · refine z_iload_n cx d_X12_parts_176 177 rfl rfl 2 rfl ?_
            refine y_iconst cx d_X12_parts_177 178 rfl ?_
            refine y_iadd cx d_X12_parts_178 179 rfl ?_
            refine z_goto cx d_X12_parts_179 183 (by decide) ?_
            refine z_sub [0, 1, 2, 3, 4, 5] rfl ?_
            exact hk_11 _ h
        · refine z_aload_n cx d_X12_parts_106 107 rfl rfl 0 rfl ?_
          refine z_iload cx d_X12_parts_107 109 rfl 6 rfl ?_
          refine y_callV_i (As := [.int (zI v6_7)]) (rest := []) (W := fun u_13 => wM g M_5) (rf := fun u_13 => zI u_13) (rm := zr0) cx (fun _ hq => tM_isBroken hq) d_X12_parts_109 112 rfl kk_X12_isBroken q_1610 q_1612 q_68 rfl e_M rfl ⟨rfl, rfl⟩ ⟨zrM_parts_fr n _ (Nat.le_of_ble_eq_true rfl), zrM_parts_lo n _ (Nat.le_of_ble_eq_true rfl)⟩ rfl rfl (Nat.le_of_ble_eq_true rfl) ⟨Nat.zero_le _, Nat.zero_le _⟩ h (fun u_13 h => ?_)
          refine kf1_f (P := fun (v5_14 : Int) => V p l e (zrM_parts (n + 1)) s m args below meth c A s.heap g 7 Q (wM g M_5) 0 0 [(0, .ref (g.2.2 0)), (1, .int (zI a1)), (2, .int (zI a2)), (3, .int (zI a3)), (4, .int (zI v4_2)), (5, .int (zI v5_14)), (6, .int (zI v6_7))] 160 []) h (fun v5_14 h => ?_) (fun k_15 hk_15 h => ?_)
          · refine y_iinc cx 6 d_X12_parts_160 163 rfl rfl (by decide) (lv' := [(6, .int (zI (v6_7 + 1))), (0, .ref (g.2.2 0)), (1, .int (zI a1)), (2, .int (zI a2)), (3, .int (zI a3)), (4, .int (zI v4_2)), (5, .int (zI v5_14))]) rfl ?_
            refine z_goto cx d_X12_parts_163 97 (by decide) ?_
            refine z_sub [1, 2, 3, 4, 5, 6, 0] rfl ?_
            exact hrec_8 _ _ h
          refine y_if_ne cx d_X12_parts_112 115 rfl 160 (by decide) rfl h (fun h => ?_) (fun h => ?_)
          · exact hk_15 _ h
          · refine z_aload_n cx d_X12_parts_115 116 rfl rfl 0 rfl ?_
            refine z_iload cx d_X12_parts_116 118 rfl 6 rfl ?_
            refine z_iload_n cx d_X12_parts_118 119 rfl rfl 1 rfl ?_
            refine y_callV_i (As := [.int (zI v6_7), .int (zI a1)]) (rest := []) (W := fun u_16 => wM g M_5) (rf := fun u_16 => zI u_16) (rm := zrM_isLatest) cx (fun _ hq => tM_isLatest hq) d_X12_parts_119 122 rfl kk_X12_isLatest q_1877 q_1879 q_104 rfl e_M rfl ⟨rfl, rfl⟩ ⟨zrM_parts_fr n _ (Nat.le_of_ble_eq_true rfl), zrM_parts_lo n _ (Nat.le_of_ble_eq_true rfl)⟩ rfl rfl (Nat.le_of_ble_eq_true rfl) ⟨Nat.zero_le _, Nat.zero_le _⟩ h (fun u_16 h => ?_)
            refine y_if_eq cx d_X12_parts_122 125 rfl 160 (by decide) rfl h (fun h => ?_) (fun h => ?_)
            · exact hk_15 _ h
            · refine z_aload_n cx d_X12_parts_125 126 rfl rfl 0 rfl ?_
              refine z_get cx d_X12_parts_126 129 rfl e_M rfl zX12 36 (by decide) q_1397 rfl rfl ?_
              refine z_aload_n cx d_X12_parts_129 130 rfl rfl 0 rfl ?_
              refine z_get cx d_X12_parts_130 133 rfl e_M rfl zX12 12 (by decide) q_1373 rfl rfl ?_
              refine y_iconst cx d_X12_parts_133 134 rfl ?_
              refine z_iload cx d_X12_parts_134 136 rfl 6 rfl ?_
              refine y_iadd cx d_X12_parts_136 137 rfl ?_
              refine y_ialdx cx d_X12_parts_137 138 rfl e_M_now (by decide) h (fun x_17 h => ?_)
              refine y_ialdx cx d_X12_parts_138 139 rfl e_M_pieceOf (by decide) h (fun x_18 h => ?_)
              refine z_aload_n cx d_X12_parts_139 140 rfl rfl 0 rfl ?_
              refine z_get cx d_X12_parts_140 143 rfl e_M rfl zX12 36 (by decide) q_1397 rfl rfl ?_
              refine z_aload_n cx d_X12_parts_143 144 rfl rfl 0 rfl ?_
              refine z_get cx d_X12_parts_144 147 rfl e_M rfl zX12 12 (by decide) q_1373 rfl rfl ?_
              refine y_bipush cx d_X12_parts_147 149 rfl (by decide) ?_
              refine z_iload cx d_X12_parts_149 151 rfl 6 rfl ?_
              refine y_iadd cx d_X12_parts_151 152 rfl ?_
              refine y_ialdx cx d_X12_parts_152 153 rfl e_M_now (by decide) h (fun x_19 h => ?_)
              refine y_ialdx cx d_X12_parts_153 154 rfl e_M_pieceOf (by decide) h (fun x_20 h => ?_)
              refine y_icmp_eq cx d_X12_parts_154 157 rfl 160 (by decide) rfl rfl h (fun h => ?_) (fun h => ?_)
              · exact hk_15 _ h
              · refine y_iinc cx 5 d_X12_parts_157 160 rfl rfl (by decide) (lv' := [(5, .int (zI (v5_6 + 1))), (0, .ref (g.2.2 0)), (1, .int (zI a1)), (2, .int (zI a2)), (3, .int (zI a3)), (4, .int (zI v4_2)), (6, .int (zI v6_7))]) rfl ?_
                refine z_sub [1, 2, 3, 4, 5, 0, 6] rfl ?_
                exact hk_15 _ h
    · refine z_iload_n cx d_X12_parts_8 9 rfl rfl 2 rfl ?_
      refine y_iconst cx d_X12_parts_9 10 rfl ?_
      refine y_icmp_ge cx d_X12_parts_10 13 rfl 14 (by decide) rfl (nm_eq (x := 2) (by decide) (by decide)) h (fun h => ?_) (fun h => ?_)
      · refine z_aload_n cx d_X12_parts_14 15 rfl rfl 0 rfl ?_
        refine z_get cx d_X12_parts_15 18 rfl e_M rfl zX12 38 (by decide) q_1399 rfl rfl ?_
        refine kf1_f (P := fun (w0_21 : Int) => V p l e (zrM_parts (n + 1)) s m args below meth c A s.heap g 7 Q (wM g M) 0 0 [(0, .ref (g.2.2 0)), (2, .int (zI a2)), (3, .int (zI a3))] 42 [.int (zI w0_21)]) h (fun w0_21 h => ?_) (fun k_22 hk_22 h => ?_)
        · refine y_istore cx d_X12_parts_42 44 rfl (by decide) (lv' := [(4, .int (zI w0_21)), (0, .ref (g.2.2 0)), (2, .int (zI a2)), (3, .int (zI a3))]) rfl ?_
          refine z_iload cx d_X12_parts_44 46 rfl 0 rfl ?_
          refine kf0_f (P := V p l e (zrM_parts (n + 1)) s m args below meth c A s.heap g 7 Q (wM g M) 0 0 [] 62 []) h (fun h => ?_) (fun k_23 hk_23 h => ?_)
          · subst hQ
            obtain rfl := Option.some.inj h
            exact z_vret cx d_X12_parts_62 rfl
          refine y_if_gt cx d_X12_parts_46 49 rfl 62 (by decide) rfl h (fun h => ?_) (fun h => ?_)
          · refine z_sub [] rfl ?_
            exact hk_23  h
          · refine z_iload cx d_X12_parts_49 51 rfl 0 rfl ?_
            refine kf0_f (P := V p l e (zrM_parts (n + 1)) s m args below meth c A s.heap g 7 Q (wM g M) 0 0 [(0, .ref (g.2.2 0)), (2, .int (zI a2)), (3, .int (zI a3))] 63 []) h (fun h => ?_) (fun k_24 hk_24 h => ?_)
            · refine z_aload_n cx d_X12_parts_63 64 rfl rfl 0 rfl ?_
              refine z_iload_n cx d_X12_parts_64 65 rfl rfl 2 rfl ?_
              refine y_put cx d_X12_parts_65 68 rfl e_M rfl zX12 tyX12_ok nmX12 37 (by decide) q_1398 rfl rfl rfl rfl (Nat.le_of_ble_eq_true rfl) h (fun _ h9 => s_M_37 h9) (fun M_25 h => ?_)
              refine z_aload_n cx d_X12_parts_68 69 rfl rfl 0 rfl ?_
              refine z_iload_n cx d_X12_parts_69 70 rfl rfl 1 rfl ?_
              refine y_put cx d_X12_parts_70 73 rfl e_M rfl zX12 tyX12_ok nmX12 38 (by decide) q_1399 rfl rfl rfl rfl (Nat.le_of_ble_eq_true rfl) h (fun _ h9 => s_M_38 h9) (fun M_26 h => ?_)
              subst hQ
              obtain rfl := Option.some.inj h
              exact z_vret cx d_X12_parts_73 rfl
            refine y_if_ne cx d_X12_parts_51 54 rfl 63 (by decide) rfl h (fun h => ?_) (fun h => ?_)
            · refine z_sub [1, 2, 3] rfl ?_
              exact hk_24  h
            · refine z_iload_n cx d_X12_parts_54 55 rfl rfl 2 rfl ?_
              refine z_aload_n cx d_X12_parts_55 56 rfl rfl 1 rfl ?_
              refine z_get cx d_X12_parts_56 59 rfl e_M rfl zX12 38 (by decide) q_1399 rfl rfl ?_
              refine y_icmp_lt cx d_X12_parts_59 62 rfl 63 (by decide) rfl rfl h (fun h => ?_) (fun h => ?_)
              · refine z_sub [1, 2, 3] rfl ?_
                exact hk_24  h
              · refine z_sub [] rfl ?_
                exact hk_23  h
        refine y_if_ne cx d_X12_parts_18 21 rfl 25 (by decide) rfl h (fun h => ?_) (fun h => ?_)
        · refine z_iload_n cx d_X12_parts_25 26 rfl rfl 3 rfl ?_
          refine z_aload_n cx d_X12_parts_26 27 rfl rfl 0 rfl ?_
          refine z_get cx d_X12_parts_27 30 rfl e_M rfl zX12 38 (by decide) q_1399 rfl rfl ?_
          refine y_iconst cx d_X12_parts_30 31 rfl ?_
          refine y_isub cx d_X12_parts_31 32 rfl ?_
          refine y_imul cx d_X12_parts_32 33 rfl ?_
          refine z_aload_n cx d_X12_parts_33 34 rfl rfl 0 rfl ?_
          refine z_get cx d_X12_parts_34 37 rfl e_M rfl zX12 37 (by decide) q_1398 rfl rfl ?_
          refine z_iload_n cx d_X12_parts_37 38 rfl rfl 2 rfl ?_
          refine y_iconst cx d_X12_parts_38 39 rfl ?_
          refine y_isub cx d_X12_parts_39 40 rfl ?_
          refine y_imul cx d_X12_parts_40 41 rfl ?_
          refine y_isub cx d_X12_parts_41 42 rfl ?_
          refine z_sub [0, 2, 3] rfl ?_
          exact hk_22 _ h
        · refine y_iconst cx d_X12_parts_21 22 rfl ?_
          refine z_goto cx d_X12_parts_22 42 (by decide) ?_
          refine z_sub [0, 2, 3] rfl ?_
          exact hk_22 _ h
      · subst hQ
        obtain rfl := Option.some.inj h
        exact z_vret cx d_X12_parts_13 rfl
def zrM_strength : Room := { frames := 62, cells := 0, slots := 0, locals := 1304 }
set_option maxHeartbeats 4000000 in
theorem tM_strength {l : Launch} {g : ZG} {M : ZB} {a1 : Int} {r : Int × ZB} (h : fM_strength M a1 = some r) : zMi l yX12_strength cX12_strength 2 (some .int) zrM_strength g [.ref (g.2.2 0), .int (zI a1)] (wM g M) (wM g r.2) (zI r.1) := by
  unfold fM_strength at h
  refine zMi_q (own := RX12) rfl (by decide +kernel) (Nat.le_of_ble_eq_true rfl) (lv := [(0, .ref (g.2.2 0)), (1, .int (zI a1))]) rfl ⟨rfl, rfl⟩ ?_
  intro p e s m args below meth c A Q hQ cx
  refine z_aload_n cx d_X12_strength_0 1 rfl rfl 0 rfl ?_
  refine y_iconst cx d_X12_strength_1 2 rfl ?_
  refine y_put cx d_X12_strength_2 5 rfl e_M rfl zX12 tyX12_ok nmX12 0 (by decide) q_1361 rfl rfl rfl rfl (Nat.le_of_ble_eq_true rfl) h (fun _ h9 => s_M_0 h9) (fun M_1 h => ?_)
  refine z_aload_n cx d_X12_strength_5 6 rfl rfl 0 rfl ?_
  refine y_callV_i (As := []) (rest := []) (W := fun u_2 => wM g M_1) (rf := fun u_2 => zI u_2) (rm := zr0) cx (fun _ hq => tM_points hq) d_X12_strength_6 9 rfl kk_X12_points q_1641 q_1643 q_73 rfl e_M rfl ⟨rfl, rfl⟩ ⟨Nat.le_of_ble_eq_true rfl, Nat.le_of_ble_eq_true rfl⟩ rfl rfl (Nat.le_of_ble_eq_true rfl) ⟨Nat.zero_le _, Nat.zero_le _⟩ h (fun u_2 h => ?_)
  refine y_iconst cx d_X12_strength_9 10 rfl ?_
  refine kf0_f (P := V p l e zrM_strength s m args below meth c A s.heap g 2 Q (wM g M_1) 0 0 [] 22 []) h (fun h => ?_) (fun k_3 hk_3 h => ?_)
  · refine y_iconst cx d_X12_strength_22 23 rfl ?_
    subst hQ
    obtain rfl := Option.some.inj h
    exact z_iret cx d_X12_strength_23 rfl rfl
  refine y_icmp_lt cx d_X12_strength_10 13 rfl 22 (by decide) rfl (nm_eq (x := 2) (by decide) (by decide)) h (fun h => ?_) (fun h => ?_)
  · refine z_sub [] rfl ?_
    exact hk_3  h
  · refine z_iload_n cx d_X12_strength_13 14 rfl rfl 1 rfl ?_
    refine y_iconst cx d_X12_strength_14 15 rfl ?_
    refine y_iconst cx d_X12_strength_15 16 rfl ?_
    refine y_callS_i (As := [.int (zI a1), .int (zI 0), .int (zI 2)]) (rest := []) (W := fun u_4 => wM g M_1) (rf := fun u_4 => zI u_4) (rm := zr0) cx (fun _ hq => tM_isIn hq) d_X12_strength_16 19 rfl kk_X12_isIn q_1552 q_1553 ⟨rfl, rfl⟩ ⟨Nat.le_of_ble_eq_true rfl, Nat.le_of_ble_eq_true rfl⟩ rfl rfl (Nat.le_of_ble_eq_true rfl) ⟨Nat.zero_le _, Nat.zero_le _⟩ h (fun u_4 h => ?_)
    refine y_if_ne cx d_X12_strength_19 22 rfl 24 (by decide) rfl h (fun h => ?_) (fun h => ?_)
    · refine z_aload_n cx d_X12_strength_24 25 rfl rfl 0 rfl ?_
      refine y_iconst cx d_X12_strength_25 26 rfl ?_
      refine y_put cx d_X12_strength_26 29 rfl e_M rfl zX12 tyX12_ok nmX12 38 (by decide) q_1399 rfl rfl rfl rfl (Nat.le_of_ble_eq_true rfl) h (fun _ h9 => s_M_38 h9) (fun M_5 h => ?_)
      refine z_aload_n cx d_X12_strength_29 30 rfl rfl 0 rfl ?_
      refine y_iconst cx d_X12_strength_30 31 rfl ?_
      refine y_put cx d_X12_strength_31 34 rfl e_M rfl zX12 tyX12_ok nmX12 37 (by decide) q_1398 rfl rfl rfl rfl (Nat.le_of_ble_eq_true rfl) h (fun _ h9 => s_M_37 h9) (fun M_6 h => ?_)
      refine z_aload_n cx d_X12_strength_34 35 rfl rfl 0 rfl ?_
      refine y_iconst cx d_X12_strength_35 36 rfl ?_
      refine y_iconst cx d_X12_strength_36 37 rfl ?_
      refine y_iconst cx d_X12_strength_37 38 rfl ?_
      refine y_callV_v (As := [.int (zI 0), .int (zI 0), .int (zI 0)]) (rest := []) (W := fun u_7 => wM g u_7) (rm := (zrM_parts 20)) cx (fun _ hq => tM_parts hq) d_X12_strength_38 41 rfl kk_X12_parts q_1873 q_1875 q_103 rfl e_M rfl ⟨rfl, rfl⟩ ⟨Nat.le_of_ble_eq_true rfl, Nat.le_of_ble_eq_true rfl⟩ rfl rfl (Nat.le_of_ble_eq_true rfl) ⟨Nat.zero_le _, Nat.zero_le _⟩ h (fun u_7 h => ?_)
      refine z_iload_n cx d_X12_strength_41 42 rfl rfl 1 rfl ?_
      refine y_iconst cx d_X12_strength_42 43 rfl ?_
      refine kf1_f (P := fun (w0_8 : Int) => V p l e zrM_strength s m args below meth c A s.heap g 2 Q (wM g u_7) 0 0 [] 67 [.int (zI w0_8)]) h (fun w0_8 h => ?_) (fun k_9 hk_9 h => ?_)
      · subst hQ
        obtain rfl := Option.some.inj h
        exact z_iret cx d_X12_strength_67 rfl rfl
      refine y_icmp_ne cx d_X12_strength_43 46 rfl 53 (by decide) rfl (nm_eq (x := 2) (by decide) (by decide)) h (fun h => ?_) (fun h => ?_)
      · refine z_aload_n cx d_X12_strength_53 54 rfl rfl 0 rfl ?_
        refine z_get cx d_X12_strength_54 57 rfl e_M rfl zX12 37 (by decide) q_1398 rfl rfl ?_
        refine z_aload_n cx d_X12_strength_57 58 rfl rfl 0 rfl ?_
        refine z_get cx d_X12_strength_58 61 rfl e_M rfl zX12 38 (by decide) q_1399 rfl rfl ?_
        refine y_iconst cx d_X12_strength_61 62 rfl ?_
        refine y_isub cx d_X12_strength_62 63 rfl ?_
        refine z_iload_n cx d_X12_strength_63 64 rfl rfl 1 rfl ?_
        refine y_callS_i (As := [.int (zI (u_7.1 37)), .int (zI ((u_7.1 38) - 1)), .int (zI a1)]) (rest := []) (W := fun u_10 => wM g u_7) (rf := fun u_10 => zI u_10) (rm := zrM_part) cx (fun _ hq => tM_part hq) d_X12_strength_64 67 rfl kk_X12_part q_1851 q_1852 ⟨rfl, rfl⟩ ⟨Nat.le_of_ble_eq_true rfl, Nat.le_of_ble_eq_true rfl⟩ rfl rfl (Nat.le_of_ble_eq_true rfl) ⟨Nat.zero_le _, Nat.zero_le _⟩ h (fun u_10 h => ?_)
        refine z_sub [] rfl ?_
        exact hk_9 _ h
      · refine z_aload_n cx d_X12_strength_46 47 rfl rfl 0 rfl ?_
        refine z_get cx d_X12_strength_47 50 rfl e_M rfl zX12 38 (by decide) q_1399 rfl rfl ?_
        refine z_goto cx d_X12_strength_50 67 (by decide) ?_
        refine z_sub [] rfl ?_
        exact hk_9 _ h
    · refine z_sub [] rfl ?_
      exact hk_3  h
def zrM_rootedBy : Room := { frames := 1, cells := 0, slots := 0, locals := 21 }
set_option maxHeartbeats 4000000 in
theorem tM_rootedBy {l : Launch} {g : ZG} {M : ZB} {a1 : Int} {a2 : Int} {r : Int} (h : fM_rootedBy M a1 a2 = some r) : zMi l yX12_rootedBy cX12_rootedBy 7 (some .int) zrM_rootedBy g [.ref (g.2.2 0), .int (zI a1), .int (zI a2)] (wM g M) (wM g M) (zI r) := by
  unfold fM_rootedBy at h
  refine zMi_q (own := RX12) rfl (by decide +kernel) (Nat.le_of_ble_eq_true rfl) (lv := [(0, .ref (g.2.2 0)), (1, .int (zI a1)), (2, .int (zI a2))]) rfl ⟨rfl, rfl⟩ ?_
  intro p e s m args below meth c A Q hQ cx
  refine y_sipush cx d_X12_rootedBy_0 3 rfl (by decide) ?_
  refine y_istore_n cx d_X12_rootedBy_3 4 rfl rfl (by decide) (lv' := [(3, .int (zI 1000)), (0, .ref (g.2.2 0)), (1, .int (zI a1)), (2, .int (zI a2))]) rfl ?_
  refine y_iconst cx d_X12_rootedBy_4 5 rfl ?_
  refine y_istore cx d_X12_rootedBy_5 7 rfl (by decide) (lv' := [(4, .int (zI 1)), (3, .int (zI 1000)), (0, .ref (g.2.2 0)), (1, .int (zI a1)), (2, .int (zI a2))]) rfl ?_
  refine z_sub [2, 3, 4, 1, 0] rfl ?_
  refine lop2_f (P := fun (v3_1 : Int) (v4_2 : Int) => V p l e zrM_rootedBy s m args below meth c A s.heap g 7 Q (wM g M) 0 0 [(0, .ref (g.2.2 0)), (1, .int (zI a1)), (2, .int (zI a2)), (3, .int (zI v3_1)), (4, .int (zI v4_2))] 7 []) (fun rec_3 hrec_3 v3_1 v4_2 h => ?_) _ _ _ h
  refine z_iload cx d_X12_rootedBy_7 9 rfl 4 rfl ?_
  refine y_iconst cx d_X12_rootedBy_9 10 rfl ?_
  refine z_aload_n cx d_X12_rootedBy_10 11 rfl rfl 0 rfl ?_
  refine y_callV_i (As := []) (rest := [.int (zI 1), .int (zI v4_2)]) (W := fun u_4 => wM g M) (rf := fun u_4 => zI u_4) (rm := zr0) cx (fun _ hq => tM_points hq) d_X12_rootedBy_11 14 rfl kk_X12_points q_1641 q_1643 q_73 rfl e_M rfl ⟨rfl, rfl⟩ ⟨Nat.le_of_ble_eq_true rfl, Nat.le_of_ble_eq_true rfl⟩ rfl rfl (Nat.le_of_ble_eq_true rfl) ⟨Nat.zero_le _, Nat.zero_le _⟩ h (fun u_4 h => ?_)
  refine y_ishl cx d_X12_rootedBy_14 15 rfl ?_
  refine y_icmp_ge cx d_X12_rootedBy_15 18 rfl 106 (by decide) rfl (nm_zshl _ _) h (fun h => ?_) (fun h => ?_)
  · refine z_iload_n cx d_X12_rootedBy_106 107 rfl rfl 3 rfl ?_
    subst hQ
    obtain rfl := Option.some.inj h
    exact z_iret cx d_X12_rootedBy_107 rfl rfl
  · refine z_iload cx d_X12_rootedBy_18 20 rfl 4 rfl ?_
    refine z_iload_n cx d_X12_rootedBy_20 21 rfl rfl 1 rfl ?_
    refine y_callS_i (As := [.int (zI v4_2), .int (zI a1)]) (rest := []) (W := fun u_5 => wM g M) (rf := fun u_5 => zI u_5) (rm := zr0) cx (fun _ hq => tM_has hq) d_X12_rootedBy_21 24 rfl kk_X12_has q_1626 q_1627 ⟨rfl, rfl⟩ ⟨Nat.le_of_ble_eq_true rfl, Nat.le_of_ble_eq_true rfl⟩ rfl rfl (Nat.le_of_ble_eq_true rfl) ⟨Nat.zero_le _, Nat.zero_le _⟩ h (fun u_5 h => ?_)
    refine kf1_f (P := fun (v3_6 : Int) => V p l e zrM_rootedBy s m args below meth c A s.heap g 7 Q (wM g M) 0 0 [(0, .ref (g.2.2 0)), (1, .int (zI a1)), (2, .int (zI a2)), (3, .int (zI v3_6)), (4, .int (zI v4_2))] 100 []) h (fun v3_6 h => ?_) (fun k_7 hk_7 h => ?_)
    · refine y_iinc cx 4 d_X12_rootedBy_100 103 rfl rfl (by decide) (lv' := [(4, .int (zI (v4_2 + 1))), (0, .ref (g.2.2 0)), (1, .int (zI a1)), (2, .int (zI a2)), (3, .int (zI v3_6))]) rfl ?_
      refine z_goto cx d_X12_rootedBy_103 7 (by decide) ?_
      refine z_sub [1, 2, 3, 4, 0] rfl ?_
      exact hrec_3 _ _ h
    refine y_if_eq cx d_X12_rootedBy_24 27 rfl 30 (by decide) rfl h (fun h => ?_) (fun h => ?_)
    · refine y_iconst cx d_X12_rootedBy_30 31 rfl ?_
      refine y_istore cx d_X12_rootedBy_31 33 rfl (by decide) (lv' := [(5, .int (zI 0)), (0, .ref (g.2.2 0)), (1, .int (zI a1)), (2, .int (zI a2)), (3, .int (zI v3_1)), (4, .int (zI v4_2))]) rfl ?_
      refine y_iconst cx d_X12_rootedBy_33 34 rfl ?_
      refine y_istore cx d_X12_rootedBy_34 36 rfl (by decide) (lv' := [(6, .int (zI 0)), (5, .int (zI 0)), (0, .ref (g.2.2 0)), (1, .int (zI a1)), (2, .int (zI a2)), (3, .int (zI v3_1)), (4, .int (zI v4_2))]) rfl ?_
      refine z_sub [2, 3, 4, 5, 6, 1, 0] rfl ?_
      refine lop2_f (P := fun (v5_8 : Int) (v6_9 : Int) => V p l e zrM_rootedBy s m args below meth c A s.heap g 7 Q (wM g M) 0 0 [(0, .ref (g.2.2 0)), (1, .int (zI a1)), (2, .int (zI a2)), (3, .int (zI v3_1)), (4, .int (zI v4_2)), (5, .int (zI v5_8)), (6, .int (zI v6_9))] 36 []) (fun rec_10 hrec_10 v5_8 v6_9 h => ?_) _ _ _ h
      refine z_iload cx d_X12_rootedBy_36 38 rfl 6 rfl ?_
      refine z_aload_n cx d_X12_rootedBy_38 39 rfl rfl 0 rfl ?_
      refine y_callV_i (As := []) (rest := [.int (zI v6_9)]) (W := fun u_11 => wM g M) (rf := fun u_11 => zI u_11) (rm := zr0) cx (fun _ hq => tM_lines hq) d_X12_rootedBy_39 42 rfl kk_X12_lines q_1582 q_1584 q_63 rfl e_M rfl ⟨rfl, rfl⟩ ⟨Nat.le_of_ble_eq_true rfl, Nat.le_of_ble_eq_true rfl⟩ rfl rfl (Nat.le_of_ble_eq_true rfl) ⟨Nat.zero_le _, Nat.zero_le _⟩ h (fun u_11 h => ?_)
      refine y_icmp_ge cx d_X12_rootedBy_42 45 rfl 91 (by decide) rfl rfl h (fun h => ?_) (fun h => ?_)
      · refine z_iload cx d_X12_rootedBy_91 93 rfl 5 rfl ?_
        refine z_iload_n cx d_X12_rootedBy_93 94 rfl rfl 3 rfl ?_
        refine y_icmp_ge cx d_X12_rootedBy_94 97 rfl 100 (by decide) rfl rfl h (fun h => ?_) (fun h => ?_)
        · refine z_sub [0, 1, 2, 3, 4] rfl ?_
          exact hk_7 _ h
        · refine z_iload cx d_X12_rootedBy_97 99 rfl 5 rfl ?_
          refine y_istore_n cx d_X12_rootedBy_99 100 rfl rfl (by decide) (lv' := [(3, .int (zI v5_8)), (0, .ref (g.2.2 0)), (1, .int (zI a1)), (2, .int (zI a2)), (4, .int (zI v4_2)), (5, .int (zI v5_8)), (6, .int (zI v6_9))]) rfl ?_
          refine z_sub [1, 2, 3, 0, 4] rfl ?_
          exact hk_7 _ h
      · refine z_iload_n cx d_X12_rootedBy_45 46 rfl rfl 2 rfl ?_
        refine z_iload cx d_X12_rootedBy_46 48 rfl 6 rfl ?_
        refine y_callS_i (As := [.int (zI a2), .int (zI v6_9)]) (rest := []) (W := fun u_12 => wM g M) (rf := fun u_12 => zI u_12) (rm := zr0) cx (fun _ hq => tM_has hq) d_X12_rootedBy_48 51 rfl kk_X12_has q_1626 q_1627 ⟨rfl, rfl⟩ ⟨Nat.le_of_ble_eq_true rfl, Nat.le_of_ble_eq_true rfl⟩ rfl rfl (Nat.le_of_ble_eq_true rfl) ⟨Nat.zero_le _, Nat.zero_le _⟩ h (fun u_12 h => ?_)
        refine kf1_f (P := fun (v5_13 : Int) => V p l e zrM_rootedBy s m args below meth c A s.heap g 7 Q (wM g M) 0 0 [(0, .ref (g.2.2 0)), (1, .int (zI a1)), (2, .int (zI a2)), (3, .int (zI v3_1)), (4, .int (zI v4_2)), (5, .int (zI v5_13)), (6, .int (zI v6_9))] 85 []) h (fun v5_13 h => ?_) (fun k_14 hk_14 h => ?_)
        · refine y_iinc cx 6 d_X12_rootedBy_85 88 rfl rfl (by decide) (lv' := [(6, .int (zI (v6_9 + 1))), (0, .ref (g.2.2 0)), (1, .int (zI a1)), (2, .int (zI a2)), (3, .int (zI v3_1)), (4, .int (zI v4_2)), (5, .int (zI v5_13))]) rfl ?_
          refine z_goto cx d_X12_rootedBy_88 36 (by decide) ?_
          refine z_sub [1, 2, 3, 4, 5, 6, 0] rfl ?_
          exact hrec_10 _ _ h
        refine y_if_eq cx d_X12_rootedBy_51 54 rfl 85 (by decide) rfl h (fun h => ?_) (fun h => ?_)
        · exact hk_14 _ h
        · refine z_iload cx d_X12_rootedBy_54 56 rfl 4 rfl ?_
          refine z_aload_n cx d_X12_rootedBy_56 57 rfl rfl 0 rfl ?_
          refine z_iload cx d_X12_rootedBy_57 59 rfl 6 rfl ?_
          refine y_callV_i (As := [.int (zI v6_9)]) (rest := [.int (zI v4_2)]) (W := fun u_15 => wM g M) (rf := fun u_15 => zI u_15) (rm := zr0) cx (fun _ hq => tM_outOf hq) d_X12_rootedBy_59 62 rfl kk_X12_outOf q_1764 q_1766 q_91 rfl e_M rfl ⟨rfl, rfl⟩ ⟨Nat.le_of_ble_eq_true rfl, Nat.le_of_ble_eq_true rfl⟩ rfl rfl (Nat.le_of_ble_eq_true rfl) ⟨Nat.zero_le _, Nat.zero_le _⟩ h (fun u_15 h => ?_)
          refine y_callS_i (As := [.int (zI v4_2), .int (zI u_15)]) (rest := []) (W := fun u_16 => wM g M) (rf := fun u_16 => zI u_16) (rm := zr0) cx (fun _ hq => tM_has hq) d_X12_rootedBy_62 65 rfl kk_X12_has q_1626 q_1627 ⟨rfl, rfl⟩ ⟨Nat.le_of_ble_eq_true rfl, Nat.le_of_ble_eq_true rfl⟩ rfl rfl (Nat.le_of_ble_eq_true rfl) ⟨Nat.zero_le _, Nat.zero_le _⟩ h (fun u_16 h => ?_)
          refine y_if_ne cx d_X12_rootedBy_65 68 rfl 85 (by decide) rfl h (fun h => ?_) (fun h => ?_)
          · exact hk_14 _ h
          · refine z_iload cx d_X12_rootedBy_68 70 rfl 4 rfl ?_
            refine z_aload_n cx d_X12_rootedBy_70 71 rfl rfl 0 rfl ?_
            refine z_iload cx d_X12_rootedBy_71 73 rfl 6 rfl ?_
            refine y_callV_i (As := [.int (zI v6_9)]) (rest := [.int (zI v4_2)]) (W := fun u_17 => wM g M) (rf := fun u_17 => zI u_17) (rm := zr0) cx (fun _ hq => tM_towards hq) d_X12_rootedBy_73 76 rfl kk_X12_towards q_1784 q_1786 q_94 rfl e_M rfl ⟨rfl, rfl⟩ ⟨Nat.le_of_ble_eq_true rfl, Nat.le_of_ble_eq_true rfl⟩ rfl rfl (Nat.le_of_ble_eq_true rfl) ⟨Nat.zero_le _, Nat.zero_le _⟩ h (fun u_17 h => ?_)
            refine y_callS_i (As := [.int (zI v4_2), .int (zI u_17)]) (rest := []) (W := fun u_18 => wM g M) (rf := fun u_18 => zI u_18) (rm := zr0) cx (fun _ hq => tM_has hq) d_X12_rootedBy_76 79 rfl kk_X12_has q_1626 q_1627 ⟨rfl, rfl⟩ ⟨Nat.le_of_ble_eq_true rfl, Nat.le_of_ble_eq_true rfl⟩ rfl rfl (Nat.le_of_ble_eq_true rfl) ⟨Nat.zero_le _, Nat.zero_le _⟩ h (fun u_18 h => ?_)
            refine y_if_eq cx d_X12_rootedBy_79 82 rfl 85 (by decide) rfl h (fun h => ?_) (fun h => ?_)
            · exact hk_14 _ h
            · refine y_iinc cx 5 d_X12_rootedBy_82 85 rfl rfl (by decide) (lv' := [(5, .int (zI (v5_8 + 1))), (0, .ref (g.2.2 0)), (1, .int (zI a1)), (2, .int (zI a2)), (3, .int (zI v3_1)), (4, .int (zI v4_2)), (6, .int (zI v6_9))]) rfl ?_
              refine z_sub [1, 2, 3, 4, 5, 0, 6] rfl ?_
              exact hk_14 _ h
    · refine z_goto cx d_X12_rootedBy_27 100 (by decide) ?_
      exact hk_7 _ h
def zrM_rooted : Room := { frames := 2, cells := 0, slots := 0, locals := 47 }
set_option maxHeartbeats 4000000 in
theorem tM_rooted {l : Launch} {g : ZG} {M : ZB} {a1 : Int} {r : Int × ZB} (h : fM_rooted M a1 = some r) : zMi l yX12_rooted cX12_rooted 2 (some .int) zrM_rooted g [.ref (g.2.2 0), .int (zI a1)] (wM g M) (wM g r.2) (zI r.1) := by
  unfold fM_rooted at h
  refine zMi_q (own := RX12) rfl (by decide +kernel) (Nat.le_of_ble_eq_true rfl) (lv := [(0, .ref (g.2.2 0)), (1, .int (zI a1))]) rfl ⟨rfl, rfl⟩ ?_
  intro p e s m args below meth c A Q hQ cx
  refine z_aload_n cx d_X12_rooted_0 1 rfl rfl 0 rfl ?_
  refine y_iconst cx d_X12_rooted_1 2 rfl ?_
  refine y_put cx d_X12_rooted_2 5 rfl e_M rfl zX12 tyX12_ok nmX12 0 (by decide) q_1361 rfl rfl rfl rfl (Nat.le_of_ble_eq_true rfl) h (fun _ h9 => s_M_0 h9) (fun M_1 h => ?_)
  refine z_aload_n cx d_X12_rooted_5 6 rfl rfl 0 rfl ?_
  refine z_iload_n cx d_X12_rooted_6 7 rfl rfl 1 rfl ?_
  refine y_callV_i (As := [.int (zI a1)]) (rest := []) (W := fun u_2 => wM g M_1) (rf := fun u_2 => zI u_2) (rm := zrM_isPoint) cx (fun _ hq => tM_isPoint hq) d_X12_rooted_7 10 rfl kk_X12_isPoint q_1772 q_1774 q_92 rfl e_M rfl ⟨rfl, rfl⟩ ⟨Nat.le_of_ble_eq_true rfl, Nat.le_of_ble_eq_true rfl⟩ rfl rfl (Nat.le_of_ble_eq_true rfl) ⟨Nat.zero_le _, Nat.zero_le _⟩ h (fun u_2 h => ?_)
  refine kf1_f (P := fun (w0_3 : Int) => V p l e zrM_rooted s m args below meth c A s.heap g 2 Q (wM g M_1) 0 0 [] 34 [.int (zI w0_3)]) h (fun w0_3 h => ?_) (fun k_4 hk_4 h => ?_)
  · subst hQ
    obtain rfl := Option.some.inj h
    exact z_iret cx d_X12_rooted_34 rfl rfl
  refine kf0_f (P := V p l e zrM_rooted s m args below meth c A s.heap g 2 Q (wM g M_1) 0 0 [] 33 []) h (fun h => ?_) (fun k_5 hk_5 h => ?_)
  · refine y_iconst cx d_X12_rooted_33 34 rfl ?_
    exact hk_4 _ h
  refine y_if_eq cx d_X12_rooted_10 13 rfl 33 (by decide) rfl h (fun h => ?_) (fun h => ?_)
  · refine z_sub [] rfl ?_
    exact hk_5  h
  · refine z_aload_n cx d_X12_rooted_13 14 rfl rfl 0 rfl ?_
    refine y_callV_i (As := []) (rest := []) (W := fun u_6 => wM g M_1) (rf := fun u_6 => zI u_6) (rm := zr0) cx (fun _ hq => tM_points hq) d_X12_rooted_14 17 rfl kk_X12_points q_1641 q_1643 q_73 rfl e_M rfl ⟨rfl, rfl⟩ ⟨Nat.le_of_ble_eq_true rfl, Nat.le_of_ble_eq_true rfl⟩ rfl rfl (Nat.le_of_ble_eq_true rfl) ⟨Nat.zero_le _, Nat.zero_le _⟩ h (fun u_6 h => ?_)
    refine y_iconst cx d_X12_rooted_17 18 rfl ?_
    refine y_icmp_le cx d_X12_rooted_18 21 rfl 33 (by decide) rfl (nm_eq (x := 1) (by decide) (by decide)) h (fun h => ?_) (fun h => ?_)
    · refine z_sub [] rfl ?_
      exact hk_5  h
    · refine z_aload_n cx d_X12_rooted_21 22 rfl rfl 0 rfl ?_
      refine z_iload_n cx d_X12_rooted_22 23 rfl rfl 1 rfl ?_
      refine z_aload_n cx d_X12_rooted_23 24 rfl rfl 0 rfl ?_
      refine y_callV_i (As := []) (rest := [.int (zI a1), .ref (g.2.2 0)]) (W := fun u_7 => wM g M_1) (rf := fun u_7 => zI u_7) (rm := zrM_sound) cx (fun _ hq => tM_sound hq) d_X12_rooted_24 27 rfl kk_X12_sound q_1645 q_1647 q_74 rfl e_M rfl ⟨rfl, rfl⟩ ⟨Nat.le_of_ble_eq_true rfl, Nat.le_of_ble_eq_true rfl⟩ rfl rfl (Nat.le_of_ble_eq_true rfl) ⟨Nat.zero_le _, Nat.zero_le _⟩ h (fun u_7 h => ?_)
      refine y_callV_i (As := [.int (zI a1), .int (zI u_7)]) (rest := []) (W := fun u_8 => wM g M_1) (rf := fun u_8 => zI u_8) (rm := zrM_rootedBy) cx (fun _ hq => tM_rootedBy hq) d_X12_rooted_27 30 rfl kk_X12_rootedBy q_1885 q_1887 q_105 rfl e_M rfl ⟨rfl, rfl⟩ ⟨Nat.le_of_ble_eq_true rfl, Nat.le_of_ble_eq_true rfl⟩ rfl rfl (Nat.le_of_ble_eq_true rfl) ⟨Nat.zero_le _, Nat.zero_le _⟩ h (fun u_8 h => ?_)
      refine z_goto cx d_X12_rooted_30 34 (by decide) ?_
      refine z_sub [] rfl ?_
      exact hk_4 _ h
def zrM_treeFrom : Room := { frames := 2, cells := 0, slots := 0, locals := 47 }
set_option maxHeartbeats 4000000 in
theorem tM_treeFrom {l : Launch} {g : ZG} {M : ZB} {a1 : Int} {a2 : Int} {a3 : Int} {r : Int} (h : fM_treeFrom M a1 a2 a3 = some r) : zMi l yX12_treeFrom cX12_treeFrom 7 (some .int) zrM_treeFrom g [.ref (g.2.2 0), .int (zI a1), .int (zI a2), .int (zI a3)] (wM g M) (wM g M) (zI r) := by
  unfold fM_treeFrom at h
  refine zMi_q (own := RX12) rfl (by decide +kernel) (Nat.le_of_ble_eq_true rfl) (lv := [(0, .ref (g.2.2 0)), (1, .int (zI a1)), (2, .int (zI a2)), (3, .int (zI a3))]) rfl ⟨rfl, rfl⟩ ?_
  intro p e s m args below meth c A Q hQ cx
  refine y_iconst cx d_X12_treeFrom_0 1 rfl ?_
  refine z_iload_n cx d_X12_treeFrom_1 2 rfl rfl 1 rfl ?_
  refine y_ishl cx d_X12_treeFrom_2 3 rfl ?_
  refine y_istore_b cx d_X12_treeFrom_3 5 rfl (by decide) (fun y => [(4, .int (zI y)), (0, .ref (g.2.2 0)), (1, .int (zI a1)), (2, .int (zI a2)), (3, .int (zI a3))]) (fun y => rfl) h (fun v4_1 h => ?_)
  refine y_iconst cx d_X12_treeFrom_5 6 rfl ?_
  refine y_istore cx d_X12_treeFrom_6 8 rfl (by decide) (lv' := [(5, .int (zI 0)), (4, .int (zI v4_1)), (0, .ref (g.2.2 0)), (1, .int (zI a1)), (2, .int (zI a2)), (3, .int (zI a3))]) rfl ?_
  refine z_sub [2, 3, 4, 5, 1, 0] rfl ?_
  refine lop2_f (P := fun (v4_2 : Int) (v5_3 : Int) => V p l e zrM_treeFrom s m args below meth c A s.heap g 7 Q (wM g M) 0 0 [(0, .ref (g.2.2 0)), (1, .int (zI a1)), (2, .int (zI a2)), (3, .int (zI a3)), (4, .int (zI v4_2)), (5, .int (zI v5_3))] 8 []) (fun rec_4 hrec_4 v4_2 v5_3 h => ?_) _ _ _ h
  refine z_iload cx d_X12_treeFrom_8 10 rfl 4 rfl ?_
  refine y_iconst cx d_X12_treeFrom_10 11 rfl ?_
  refine z_aload_n cx d_X12_treeFrom_11 12 rfl rfl 0 rfl ?_
  refine y_callV_i (As := []) (rest := [.int (zI 1), .int (zI v4_2)]) (W := fun u_5 => wM g M) (rf := fun u_5 => zI u_5) (rm := zr0) cx (fun _ hq => tM_points hq) d_X12_treeFrom_12 15 rfl kk_X12_points q_1641 q_1643 q_73 rfl e_M rfl ⟨rfl, rfl⟩ ⟨Nat.le_of_ble_eq_true rfl, Nat.le_of_ble_eq_true rfl⟩ rfl rfl (Nat.le_of_ble_eq_true rfl) ⟨Nat.zero_le _, Nat.zero_le _⟩ h (fun u_5 h => ?_)
  refine y_ishl cx d_X12_treeFrom_15 16 rfl ?_
  refine y_iconst cx d_X12_treeFrom_16 17 rfl ?_
  refine y_isub cx d_X12_treeFrom_17 18 rfl ?_
  refine y_icmp_eq cx d_X12_treeFrom_18 21 rfl 121 (by decide) rfl rfl h (fun h => ?_) (fun h => ?_)
  · refine z_iload cx d_X12_treeFrom_121 123 rfl 5 rfl ?_
    subst hQ
    obtain rfl := Option.some.inj h
    exact z_iret cx d_X12_treeFrom_123 rfl rfl
  · refine y_iconst cx d_X12_treeFrom_21 22 rfl ?_
    refine y_istore cx d_X12_treeFrom_22 24 rfl (by decide) (lv' := [(6, .int (zI 0)), (0, .ref (g.2.2 0)), (1, .int (zI a1)), (2, .int (zI a2)), (3, .int (zI a3)), (4, .int (zI v4_2)), (5, .int (zI v5_3))]) rfl ?_
    refine z_sub [1, 2, 3, 4, 5, 6, 0] rfl ?_
    refine lop1_f (P := fun (v6_6 : Int) => V p l e zrM_treeFrom s m args below meth c A s.heap g 7 Q (wM g M) 0 0 [(0, .ref (g.2.2 0)), (1, .int (zI a1)), (2, .int (zI a2)), (3, .int (zI a3)), (4, .int (zI v4_2)), (5, .int (zI v5_3)), (6, .int (zI v6_6))] 24 []) (fun rec_7 hrec_7 v6_6 h => ?_) _ _ h
    refine z_iload_n cx d_X12_treeFrom_24 25 rfl rfl 2 rfl ?_
    refine z_iload cx d_X12_treeFrom_25 27 rfl 5 rfl ?_
    refine y_iconst cx d_X12_treeFrom_27 28 rfl ?_
    refine y_ixor cx d_X12_treeFrom_28 29 rfl ?_
    refine y_iand cx d_X12_treeFrom_29 30 rfl ?_
    refine z_iload cx d_X12_treeFrom_30 32 rfl 6 rfl ?_
    refine y_callS_i (As := [.int (zI (zand a2 (zxor v5_3 (-1)))), .int (zI v6_6)]) (rest := []) (W := fun u_8 => wM g M) (rf := fun u_8 => zI u_8) (rm := zr0) cx (fun _ hq => tM_has hq) d_X12_treeFrom_32 35 rfl kk_X12_has q_1626 q_1627 ⟨rfl, rfl⟩ ⟨Nat.le_of_ble_eq_true rfl, Nat.le_of_ble_eq_true rfl⟩ rfl rfl (Nat.le_of_ble_eq_true rfl) ⟨Nat.zero_le _, Nat.zero_le _⟩ h (fun u_8 h => ?_)
    refine kf0_f (P := V p l e zrM_treeFrom s m args below meth c A s.heap g 7 Q (wM g M) 0 0 [(0, .ref (g.2.2 0)), (1, .int (zI a1)), (2, .int (zI a2)), (3, .int (zI a3)), (4, .int (zI v4_2)), (5, .int (zI v5_3)), (6, .int (zI v6_6))] 92 []) h (fun h => ?_) (fun k_9 hk_9 h => ?_)
    · refine y_iinc cx 6 d_X12_treeFrom_92 95 rfl rfl (by decide) (lv' := [(6, .int (zI (v6_6 + 1))), (0, .ref (g.2.2 0)), (1, .int (zI a1)), (2, .int (zI a2)), (3, .int (zI a3)), (4, .int (zI v4_2)), (5, .int (zI v5_3))]) rfl ?_
      refine z_goto cx d_X12_treeFrom_95 24 (by decide) ?_
      refine z_sub [1, 2, 3, 4, 5, 6, 0] rfl ?_
      exact hrec_7 _ h
    refine y_if_eq cx d_X12_treeFrom_35 38 rfl 92 (by decide) rfl h (fun h => ?_) (fun h => ?_)
    · exact hk_9  h
    · refine z_iload cx d_X12_treeFrom_38 40 rfl 4 rfl ?_
      refine z_aload_n cx d_X12_treeFrom_40 41 rfl rfl 0 rfl ?_
      refine z_iload cx d_X12_treeFrom_41 43 rfl 6 rfl ?_
      refine y_callV_i (As := [.int (zI v6_6)]) (rest := [.int (zI v4_2)]) (W := fun u_10 => wM g M) (rf := fun u_10 => zI u_10) (rm := zr0) cx (fun _ hq => tM_outOf hq) d_X12_treeFrom_43 46 rfl kk_X12_outOf q_1764 q_1766 q_91 rfl e_M rfl ⟨rfl, rfl⟩ ⟨Nat.le_of_ble_eq_true rfl, Nat.le_of_ble_eq_true rfl⟩ rfl rfl (Nat.le_of_ble_eq_true rfl) ⟨Nat.zero_le _, Nat.zero_le _⟩ h (fun u_10 h => ?_)
      refine y_callS_i (As := [.int (zI v4_2), .int (zI u_10)]) (rest := []) (W := fun u_11 => wM g M) (rf := fun u_11 => zI u_11) (rm := zr0) cx (fun _ hq => tM_has hq) d_X12_treeFrom_46 49 rfl kk_X12_has q_1626 q_1627 ⟨rfl, rfl⟩ ⟨Nat.le_of_ble_eq_true rfl, Nat.le_of_ble_eq_true rfl⟩ rfl rfl (Nat.le_of_ble_eq_true rfl) ⟨Nat.zero_le _, Nat.zero_le _⟩ h (fun u_11 h => ?_)
      refine y_if_eq cx d_X12_treeFrom_49 52 rfl 92 (by decide) rfl h (fun h => ?_) (fun h => ?_)
      · exact hk_9  h
      · refine z_iload cx d_X12_treeFrom_52 54 rfl 4 rfl ?_
        refine z_aload_n cx d_X12_treeFrom_54 55 rfl rfl 0 rfl ?_
        refine z_iload cx d_X12_treeFrom_55 57 rfl 6 rfl ?_
        refine y_callV_i (As := [.int (zI v6_6)]) (rest := [.int (zI v4_2)]) (W := fun u_12 => wM g M) (rf := fun u_12 => zI u_12) (rm := zr0) cx (fun _ hq => tM_towards hq) d_X12_treeFrom_57 60 rfl kk_X12_towards q_1784 q_1786 q_94 rfl e_M rfl ⟨rfl, rfl⟩ ⟨Nat.le_of_ble_eq_true rfl, Nat.le_of_ble_eq_true rfl⟩ rfl rfl (Nat.le_of_ble_eq_true rfl) ⟨Nat.zero_le _, Nat.zero_le _⟩ h (fun u_12 h => ?_)
        refine y_callS_i (As := [.int (zI v4_2), .int (zI u_12)]) (rest := []) (W := fun u_13 => wM g M) (rf := fun u_13 => zI u_13) (rm := zr0) cx (fun _ hq => tM_has hq) d_X12_treeFrom_60 63 rfl kk_X12_has q_1626 q_1627 ⟨rfl, rfl⟩ ⟨Nat.le_of_ble_eq_true rfl, Nat.le_of_ble_eq_true rfl⟩ rfl rfl (Nat.le_of_ble_eq_true rfl) ⟨Nat.zero_le _, Nat.zero_le _⟩ h (fun u_13 h => ?_)
        refine y_if_ne cx d_X12_treeFrom_63 66 rfl 92 (by decide) rfl h (fun h => ?_) (fun h => ?_)
        · exact hk_9  h
        · refine z_iload_n cx d_X12_treeFrom_66 67 rfl rfl 3 rfl ?_
          refine kf0_f (P := V p l e zrM_treeFrom s m args below meth c A s.heap g 7 Q (wM g M) 0 0 [(0, .ref (g.2.2 0)), (1, .int (zI a1)), (2, .int (zI a2)), (3, .int (zI a3)), (4, .int (zI v4_2)), (5, .int (zI v5_3)), (6, .int (zI v6_6))] 98 []) h (fun h => ?_) (fun k_14 hk_14 h => ?_)
          · refine z_iload cx d_X12_treeFrom_98 100 rfl 5 rfl ?_
            refine y_iconst cx d_X12_treeFrom_100 101 rfl ?_
            refine z_iload cx d_X12_treeFrom_101 103 rfl 6 rfl ?_
            refine y_ishl cx d_X12_treeFrom_103 104 rfl ?_
            refine y_ior cx d_X12_treeFrom_104 105 rfl ?_
            refine y_istore_b cx d_X12_treeFrom_105 107 rfl (by decide) (fun y => [(5, .int (zI y)), (0, .ref (g.2.2 0)), (1, .int (zI a1)), (2, .int (zI a2)), (3, .int (zI a3)), (4, .int (zI v4_2)), (6, .int (zI v6_6))]) (fun y => rfl) h (fun v5_15 h => ?_)
            refine z_iload cx d_X12_treeFrom_107 109 rfl 5 rfl ?_
            refine z_aload_n cx d_X12_treeFrom_109 110 rfl rfl 1 rfl ?_
            refine z_iload cx d_X12_treeFrom_110 112 rfl 6 rfl ?_
            refine y_callV_i (As := [.int (zI v6_6)]) (rest := [.int (zI v4_2)]) (W := fun u_16 => wM g M) (rf := fun u_16 => zI u_16) (rm := zr0) cx (fun _ hq => tM_ends hq) d_X12_treeFrom_112 115 rfl kk_X12_ends q_1629 q_1631 q_72 rfl e_M rfl ⟨rfl, rfl⟩ ⟨Nat.le_of_ble_eq_true rfl, Nat.le_of_ble_eq_true rfl⟩ rfl rfl (Nat.le_of_ble_eq_true rfl) ⟨Nat.zero_le _, Nat.zero_le _⟩ h (fun u_16 h => ?_)
            refine y_ior cx d_X12_treeFrom_115 116 rfl ?_
            refine y_istore_b cx d_X12_treeFrom_116 118 rfl (by decide) (fun y => [(4, .int (zI y)), (5, .int (zI v5_15)), (0, .ref (g.2.2 0)), (1, .int (zI a1)), (2, .int (zI a2)), (3, .int (zI a3)), (6, .int (zI v6_6))]) (fun y => rfl) h (fun v4_17 h => ?_)
            refine z_goto cx d_X12_treeFrom_118 8 (by decide) ?_
            refine z_sub [2, 3, 4, 5, 0, 1] rfl ?_
            exact hrec_4 _ _ h
          refine y_if_le cx d_X12_treeFrom_67 70 rfl 98 (by decide) rfl h (fun h => ?_) (fun h => ?_)
          · exact hk_14  h
          · refine z_aload_n cx d_X12_treeFrom_70 71 rfl rfl 0 rfl ?_
            refine z_iload_n cx d_X12_treeFrom_71 72 rfl rfl 1 rfl ?_
            refine z_iload_n cx d_X12_treeFrom_72 73 rfl rfl 2 rfl ?_
            refine z_iload cx d_X12_treeFrom_73 75 rfl 5 rfl ?_
            refine y_iconst cx d_X12_treeFrom_75 76 rfl ?_
            refine y_ixor cx d_X12_treeFrom_76 77 rfl ?_
            refine y_iand cx d_X12_treeFrom_77 78 rfl ?_
            refine y_iconst cx d_X12_treeFrom_78 79 rfl ?_
            refine z_iload cx d_X12_treeFrom_79 81 rfl 6 rfl ?_
            refine y_ishl cx d_X12_treeFrom_81 82 rfl ?_
            refine y_iconst cx d_X12_treeFrom_82 83 rfl ?_
            refine y_ixor cx d_X12_treeFrom_83 84 rfl ?_
            refine y_iand cx d_X12_treeFrom_84 85 rfl ?_
            refine y_callV_i (As := [.int (zI a1), .int (zI (zand (zand a2 (zxor v5_3 (-1))) (zxor (zshl 1 v6_6) (-1))))]) (rest := []) (W := fun u_18 => wM g M) (rf := fun u_18 => zI u_18) (rm := zrM_rootedBy) cx (fun _ hq => tM_rootedBy hq) d_X12_treeFrom_85 88 rfl kk_X12_rootedBy q_1885 q_1887 q_105 rfl e_M rfl ⟨rfl, rfl⟩ ⟨Nat.le_of_ble_eq_true rfl, Nat.le_of_ble_eq_true rfl⟩ rfl rfl (Nat.le_of_ble_eq_true rfl) ⟨Nat.zero_le _, Nat.zero_le _⟩ h (fun u_18 h => ?_)
            refine z_iload_n cx d_X12_treeFrom_88 89 rfl rfl 3 rfl ?_
            refine y_icmp_ge cx d_X12_treeFrom_89 92 rfl 98 (by decide) rfl rfl h (fun h => ?_) (fun h => ?_)
            · exact hk_14  h
            · exact hk_9  h
def zrM_outTree : Room := { frames := 3, cells := 0, slots := 0, locals := 73 }
set_option maxHeartbeats 4000000 in
theorem tM_outTree {l : Launch} {g : ZG} {M : ZB} {a1 : Int} {a2 : Int} {r : Int × ZB} (h : fM_outTree M a1 a2 = some r) : zMi l yX12_outTree cX12_outTree 7 (some .int) zrM_outTree g [.ref (g.2.2 0), .int (zI a1), .int (zI a2)] (wM g M) (wM g r.2) (zI r.1) := by
  unfold fM_outTree at h
  refine zMi_q (own := RX12) rfl (by decide +kernel) (Nat.le_of_ble_eq_true rfl) (lv := [(0, .ref (g.2.2 0)), (1, .int (zI a1)), (2, .int (zI a2))]) rfl ⟨rfl, rfl⟩ ?_
  intro p e s m args below meth c A Q hQ cx
  refine z_aload_n cx d_X12_outTree_0 1 rfl rfl 0 rfl ?_
  refine y_iconst cx d_X12_outTree_1 2 rfl ?_
  refine y_put cx d_X12_outTree_2 5 rfl e_M rfl zX12 tyX12_ok nmX12 0 (by decide) q_1361 rfl rfl rfl rfl (Nat.le_of_ble_eq_true rfl) h (fun _ h9 => s_M_0 h9) (fun M_1 h => ?_)
  refine z_aload_n cx d_X12_outTree_5 6 rfl rfl 0 rfl ?_
  refine z_iload_n cx d_X12_outTree_6 7 rfl rfl 1 rfl ?_
  refine y_callV_i (As := [.int (zI a1)]) (rest := []) (W := fun u_2 => wM g M_1) (rf := fun u_2 => zI u_2) (rm := zrM_isPoint) cx (fun _ hq => tM_isPoint hq) d_X12_outTree_7 10 rfl kk_X12_isPoint q_1772 q_1774 q_92 rfl e_M rfl ⟨rfl, rfl⟩ ⟨Nat.le_of_ble_eq_true rfl, Nat.le_of_ble_eq_true rfl⟩ rfl rfl (Nat.le_of_ble_eq_true rfl) ⟨Nat.zero_le _, Nat.zero_le _⟩ h (fun u_2 h => ?_)
  refine kf0_f (P := V p l e zrM_outTree s m args below meth c A s.heap g 7 Q (wM g M_1) 0 0 [] 21 []) h (fun h => ?_) (fun k_3 hk_3 h => ?_)
  · refine y_iconst cx d_X12_outTree_21 22 rfl ?_
    subst hQ
    obtain rfl := Option.some.inj h
    exact z_iret cx d_X12_outTree_22 rfl rfl
  refine y_if_eq cx d_X12_outTree_10 13 rfl 21 (by decide) rfl h (fun h => ?_) (fun h => ?_)
  · refine z_sub [] rfl ?_
    exact hk_3  h
  · refine z_aload_n cx d_X12_outTree_13 14 rfl rfl 0 rfl ?_
    refine y_callV_i (As := []) (rest := []) (W := fun u_4 => wM g M_1) (rf := fun u_4 => zI u_4) (rm := zr0) cx (fun _ hq => tM_points hq) d_X12_outTree_14 17 rfl kk_X12_points q_1641 q_1643 q_73 rfl e_M rfl ⟨rfl, rfl⟩ ⟨Nat.le_of_ble_eq_true rfl, Nat.le_of_ble_eq_true rfl⟩ rfl rfl (Nat.le_of_ble_eq_true rfl) ⟨Nat.zero_le _, Nat.zero_le _⟩ h (fun u_4 h => ?_)
    refine y_iconst cx d_X12_outTree_17 18 rfl ?_
    refine y_icmp_ge cx d_X12_outTree_18 21 rfl 23 (by decide) rfl (nm_eq (x := 2) (by decide) (by decide)) h (fun h => ?_) (fun h => ?_)
    · refine z_aload_n cx d_X12_outTree_23 24 rfl rfl 0 rfl ?_
      refine y_callV_i (As := []) (rest := []) (W := fun u_5 => wM g M_1) (rf := fun u_5 => zI u_5) (rm := zrM_sound) cx (fun _ hq => tM_sound hq) d_X12_outTree_24 27 rfl kk_X12_sound q_1645 q_1647 q_74 rfl e_M rfl ⟨rfl, rfl⟩ ⟨Nat.le_of_ble_eq_true rfl, Nat.le_of_ble_eq_true rfl⟩ rfl rfl (Nat.le_of_ble_eq_true rfl) ⟨Nat.zero_le _, Nat.zero_le _⟩ h (fun u_5 h => ?_)
      refine y_istore_n cx d_X12_outTree_27 28 rfl rfl (by decide) (lv' := [(3, .int (zI u_5)), (0, .ref (g.2.2 0)), (1, .int (zI a1)), (2, .int (zI a2))]) rfl ?_
      refine z_aload_n cx d_X12_outTree_28 29 rfl rfl 1 rfl ?_
      refine z_iload_n cx d_X12_outTree_29 30 rfl rfl 2 rfl ?_
      refine z_iload_n cx d_X12_outTree_30 31 rfl rfl 0 rfl ?_
      refine y_callV_i (As := [.int (zI a1), .int (zI u_5)]) (rest := []) (W := fun u_6 => wM g M_1) (rf := fun u_6 => zI u_6) (rm := zrM_rootedBy) cx (fun _ hq => tM_rootedBy hq) d_X12_outTree_31 34 rfl kk_X12_rootedBy q_1885 q_1887 q_105 rfl e_M rfl ⟨rfl, rfl⟩ ⟨Nat.le_of_ble_eq_true rfl, Nat.le_of_ble_eq_true rfl⟩ rfl rfl (Nat.le_of_ble_eq_true rfl) ⟨Nat.zero_le _, Nat.zero_le _⟩ h (fun u_6 h => ?_)
      refine y_istore cx d_X12_outTree_34 36 rfl (by decide) (lv' := [(4, .int (zI u_6)), (3, .int (zI u_5)), (0, .ref (g.2.2 0)), (1, .int (zI a1)), (2, .int (zI a2))]) rfl ?_
      refine z_iload_n cx d_X12_outTree_36 37 rfl rfl 4 rfl ?_
      refine y_iconst cx d_X12_outTree_37 38 rfl ?_
      refine z_iload cx d_X12_outTree_38 40 rfl 0 rfl ?_
      refine y_iconst cx d_X12_outTree_40 41 rfl ?_
      refine y_isub cx d_X12_outTree_41 42 rfl ?_
      refine y_callS_i (As := [.int (zI a2), .int (zI 0), .int (zI (u_6 - 1))]) (rest := []) (W := fun u_7 => wM g M_1) (rf := fun u_7 => zI u_7) (rm := zr0) cx (fun _ hq => tM_isIn hq) d_X12_outTree_42 45 rfl kk_X12_isIn q_1552 q_1553 ⟨rfl, rfl⟩ ⟨Nat.le_of_ble_eq_true rfl, Nat.le_of_ble_eq_true rfl⟩ rfl rfl (Nat.le_of_ble_eq_true rfl) ⟨Nat.zero_le _, Nat.zero_le _⟩ h (fun u_7 h => ?_)
      refine y_if_ne cx d_X12_outTree_45 48 rfl 50 (by decide) rfl h (fun h => ?_) (fun h => ?_)
      · refine y_iconst cx d_X12_outTree_50 51 rfl ?_
        refine y_istore cx d_X12_outTree_51 53 rfl (by decide) (lv' := [(5, .int (zI 0)), (4, .int (zI u_6)), (3, .int (zI u_5)), (0, .ref (g.2.2 0)), (1, .int (zI a1)), (2, .int (zI a2))]) rfl ?_
        refine y_iconst cx d_X12_outTree_53 54 rfl ?_
        refine y_istore cx d_X12_outTree_54 56 rfl (by decide) (lv' := [(6, .int (zI 0)), (5, .int (zI 0)), (4, .int (zI u_6)), (3, .int (zI u_5)), (0, .ref (g.2.2 0)), (1, .int (zI a1)), (2, .int (zI a2))]) rfl ?_
        refine z_sub [4, 5, 6, 3, 2, 1, 0] rfl ?_
        refine lop3_f (P := fun (v3_8 : Int) (v5_9 : Int) (v6_10 : Int) => V p l e zrM_outTree s m args below meth c A s.heap g 7 Q (wM g M_1) 0 0 [(0, .ref (g.2.2 0)), (1, .int (zI a1)), (2, .int (zI a2)), (3, .int (zI v3_8)), (4, .int (zI u_6)), (5, .int (zI v5_9)), (6, .int (zI v6_10))] 56 []) (fun rec_11 hrec_11 v3_8 v5_9 v6_10 h => ?_) _ _ _ _ h
        refine z_iload cx d_X12_outTree_56 58 rfl 6 rfl ?_
        refine z_iload_n cx d_X12_outTree_58 59 rfl rfl 2 rfl ?_
        refine y_icmp_gt cx d_X12_outTree_59 62 rfl 90 (by decide) rfl rfl h (fun h => ?_) (fun h => ?_)
        · refine z_iload cx d_X12_outTree_90 92 rfl 5 rfl ?_
          subst hQ
          obtain rfl := Option.some.inj h
          exact z_iret cx d_X12_outTree_92 rfl rfl
        · refine z_aload_n cx d_X12_outTree_62 63 rfl rfl 0 rfl ?_
          refine z_iload_n cx d_X12_outTree_63 64 rfl rfl 1 rfl ?_
          refine z_iload_n cx d_X12_outTree_64 65 rfl rfl 3 rfl ?_
          refine z_iload cx d_X12_outTree_65 67 rfl 4 rfl ?_
          refine y_iconst cx d_X12_outTree_67 68 rfl ?_
          refine y_isub cx d_X12_outTree_68 69 rfl ?_
          refine z_iload cx d_X12_outTree_69 71 rfl 6 rfl ?_
          refine y_isub cx d_X12_outTree_71 72 rfl ?_
          refine y_callV_i (As := [.int (zI a1), .int (zI v3_8), .int (zI ((u_6 - 1) - v6_10))]) (rest := []) (W := fun u_12 => wM g M_1) (rf := fun u_12 => zI u_12) (rm := zrM_treeFrom) cx (fun _ hq => tM_treeFrom hq) d_X12_outTree_72 75 rfl kk_X12_treeFrom q_1893 q_1895 q_106 rfl e_M rfl ⟨rfl, rfl⟩ ⟨Nat.le_of_ble_eq_true rfl, Nat.le_of_ble_eq_true rfl⟩ rfl rfl (Nat.le_of_ble_eq_true rfl) ⟨Nat.zero_le _, Nat.zero_le _⟩ h (fun u_12 h => ?_)
          refine y_istore cx d_X12_outTree_75 77 rfl (by decide) (lv' := [(5, .int (zI u_12)), (0, .ref (g.2.2 0)), (1, .int (zI a1)), (2, .int (zI a2)), (3, .int (zI v3_8)), (4, .int (zI u_6)), (6, .int (zI v6_10))]) rfl ?_
          refine z_iload_n cx d_X12_outTree_77 78 rfl rfl 4 rfl ?_
          refine z_iload cx d_X12_outTree_78 80 rfl 0 rfl ?_
          refine y_iconst cx d_X12_outTree_80 81 rfl ?_
          refine y_ixor cx d_X12_outTree_81 82 rfl ?_
          refine y_iand cx d_X12_outTree_82 83 rfl ?_
          refine y_istore_n_b cx d_X12_outTree_83 84 rfl rfl (by decide) (fun y => [(3, .int (zI y)), (5, .int (zI u_12)), (0, .ref (g.2.2 0)), (1, .int (zI a1)), (2, .int (zI a2)), (4, .int (zI u_6)), (6, .int (zI v6_10))]) (fun y => rfl) h (fun v3_13 h => ?_)
          refine y_iinc cx 6 d_X12_outTree_84 87 rfl rfl (by decide) (lv' := [(6, .int (zI (v6_10 + 1))), (3, .int (zI v3_13)), (5, .int (zI u_12)), (0, .ref (g.2.2 0)), (1, .int (zI a1)), (2, .int (zI a2)), (4, .int (zI u_6))]) rfl ?_
          refine z_goto cx d_X12_outTree_87 56 (by decide) ?_
          refine z_sub [3, 4, 5, 1, 6, 2, 0] rfl ?_
          exact hrec_11 _ _ _ h
      · refine y_iconst cx d_X12_outTree_48 49 rfl ?_
        subst hQ
        obtain rfl := Option.some.inj h
        exact z_iret cx d_X12_outTree_49 rfl rfl
    · refine z_sub [] rfl ?_
      exact hk_3  h
def zrM_laysLayers : Room := { frames := 2, cells := 0, slots := 0, locals := 48 }
set_option maxHeartbeats 4000000 in
theorem tM_laysLayers {l : Launch} {g : ZG} {M : ZB}  {r : ZB} (h : fM_laysLayers M = some r) : zMv l yX12_laysLayers cX12_laysLayers 6 none zrM_laysLayers g [.ref (g.2.2 0)] (wM g M) (wM g r) := by
  unfold fM_laysLayers at h
  refine zMv_q (own := RX12) rfl (by decide +kernel) (Nat.le_of_ble_eq_true rfl) (lv := [(0, .ref (g.2.2 0))]) rfl ⟨rfl, rfl⟩ ?_
  intro p e s m args below meth c A Q hQ cx
  refine z_aload_n cx d_X12_laysLayers_0 1 rfl rfl 0 rfl ?_
  refine y_callV_v (As := []) (rest := []) (W := fun u_1 => wM g u_1) (rm := zr0) cx (fun _ hq => tM_standAlone hq) d_X12_laysLayers_1 4 rfl kk_X12_standAlone q_1843 q_1845 q_101 rfl e_M rfl ⟨rfl, rfl⟩ ⟨Nat.le_of_ble_eq_true rfl, Nat.le_of_ble_eq_true rfl⟩ rfl rfl (Nat.le_of_ble_eq_true rfl) ⟨Nat.zero_le _, Nat.zero_le _⟩ h (fun u_1 h => ?_)
  refine z_aload_n cx d_X12_laysLayers_4 5 rfl rfl 0 rfl ?_
  refine y_iconst cx d_X12_laysLayers_5 6 rfl ?_
  refine y_put cx d_X12_laysLayers_6 9 rfl e_M rfl zX12 tyX12_ok nmX12 40 (by decide) q_1401 rfl rfl rfl rfl (Nat.le_of_ble_eq_true rfl) h (fun _ h9 => s_M_40 h9) (fun M_2 h => ?_)
  refine y_iconst cx d_X12_laysLayers_9 10 rfl ?_
  refine z_aload_n cx d_X12_laysLayers_10 11 rfl rfl 0 rfl ?_
  refine y_callV_i (As := []) (rest := [.int (zI 1)]) (W := fun u_3 => wM g M_2) (rf := fun u_3 => zI u_3) (rm := zr0) cx (fun _ hq => tM_points hq) d_X12_laysLayers_11 14 rfl kk_X12_points q_1641 q_1643 q_73 rfl e_M rfl ⟨rfl, rfl⟩ ⟨Nat.le_of_ble_eq_true rfl, Nat.le_of_ble_eq_true rfl⟩ rfl rfl (Nat.le_of_ble_eq_true rfl) ⟨Nat.zero_le _, Nat.zero_le _⟩ h (fun u_3 h => ?_)
  refine y_ishl cx d_X12_laysLayers_14 15 rfl ?_
  refine y_iconst cx d_X12_laysLayers_15 16 rfl ?_
  refine y_isub cx d_X12_laysLayers_16 17 rfl ?_
  refine y_istore_n_b cx d_X12_laysLayers_17 18 rfl rfl (by decide) (fun y => [(1, .int (zI y)), (0, .ref (g.2.2 0))]) (fun y => rfl) h (fun v1_4 h => ?_)
  refine z_aload_n cx d_X12_laysLayers_18 19 rfl rfl 1 rfl ?_
  refine y_callV_i (As := []) (rest := []) (W := fun u_5 => wM g M_2) (rf := fun u_5 => zI u_5) (rm := zrM_sound) cx (fun _ hq => tM_sound hq) d_X12_laysLayers_19 22 rfl kk_X12_sound q_1645 q_1647 q_74 rfl e_M rfl ⟨rfl, rfl⟩ ⟨Nat.le_of_ble_eq_true rfl, Nat.le_of_ble_eq_true rfl⟩ rfl rfl (Nat.le_of_ble_eq_true rfl) ⟨Nat.zero_le _, Nat.zero_le _⟩ h (fun u_5 h => ?_)
  refine y_istore_n cx d_X12_laysLayers_22 23 rfl rfl (by decide) (lv' := [(2, .int (zI u_5)), (1, .int (zI v1_4)), (0, .ref (g.2.2 0))]) rfl ?_
  refine z_sub [2, 1, 0] rfl ?_
  refine lop3_f (P := fun (v1_6 : Int) (v2_7 : Int) (M_8 : ZB) => V p l e zrM_laysLayers s m args below meth c A s.heap g 6 Q (wM g M_8) 0 0 [(0, .ref (g.2.2 0)), (1, .int (zI v1_6)), (2, .int (zI v2_7))] 23 []) (fun rec_9 hrec_9 v1_6 v2_7 M_8 h => ?_) _ _ _ _ h
  refine z_iload_n cx d_X12_laysLayers_23 24 rfl rfl 2 rfl ?_
  refine y_if_eq cx d_X12_laysLayers_24 27 rfl 276 (by decide) rfl h (fun h => ?_) (fun h => ?_)
  · subst hQ
    obtain rfl := Option.some.inj h
    exact z_vret cx d_X12_laysLayers_276 rfl
  · refine z_aload_n cx d_X12_laysLayers_27 28 rfl rfl 0 rfl ?_
    refine z_iload_n cx d_X12_laysLayers_28 29 rfl rfl 1 rfl ?_
    refine z_iload_n cx d_X12_laysLayers_29 30 rfl rfl 2 rfl ?_
    refine y_callV_v (As := [.int (zI v1_6), .int (zI v2_7)]) (rest := []) (W := fun u_10 => wM g u_10) (rm := zrM_laysThick) cx (fun _ hq => tM_laysThick hq) d_X12_laysLayers_30 33 rfl kk_X12_laysThick q_1847 q_1849 q_102 rfl e_M rfl ⟨rfl, rfl⟩ ⟨Nat.le_of_ble_eq_true rfl, Nat.le_of_ble_eq_true rfl⟩ rfl rfl (Nat.le_of_ble_eq_true rfl) ⟨Nat.zero_le _, Nat.zero_le _⟩ h (fun u_10 h => ?_)
    refine y_iconst cx d_X12_laysLayers_33 34 rfl ?_
    refine y_istore_n cx d_X12_laysLayers_34 35 rfl rfl (by decide) (lv' := [(3, .int (zI 0)), (0, .ref (g.2.2 0)), (1, .int (zI v1_6)), (2, .int (zI v2_7))]) rfl ?_
    refine z_sub [1, 2, 3, 0] rfl ?_
    refine lop1_f (P := fun (v3_11 : Int) => V p l e zrM_laysLayers s m args below meth c A s.heap g 6 Q (wM g u_10) 0 0 [(0, .ref (g.2.2 0)), (1, .int (zI v1_6)), (2, .int (zI v2_7)), (3, .int (zI v3_11))] 35 []) (fun rec_12 hrec_12 v3_11 h => ?_) _ _ h
    refine z_aload_n cx d_X12_laysLayers_35 36 rfl rfl 0 rfl ?_
    refine z_get cx d_X12_laysLayers_36 39 rfl e_M rfl zX12 34 (by decide) q_1395 rfl rfl ?_
    refine y_iconst cx d_X12_laysLayers_39 40 rfl ?_
    refine y_ialdx cx d_X12_laysLayers_40 41 rfl e_M_found (by decide) h (fun x_13 h => ?_)
    refine z_iload_n cx d_X12_laysLayers_41 42 rfl rfl 3 rfl ?_
    refine y_callS_i (As := [.int (zI x_13), .int (zI v3_11)]) (rest := []) (W := fun u_14 => wM g u_10) (rf := fun u_14 => zI u_14) (rm := zr0) cx (fun _ hq => tM_has hq) d_X12_laysLayers_42 45 rfl kk_X12_has q_1626 q_1627 ⟨rfl, rfl⟩ ⟨Nat.le_of_ble_eq_true rfl, Nat.le_of_ble_eq_true rfl⟩ rfl rfl (Nat.le_of_ble_eq_true rfl) ⟨Nat.zero_le _, Nat.zero_le _⟩ h (fun u_14 h => ?_)
    refine y_if_ne cx d_X12_laysLayers_45 48 rfl 54 (by decide) rfl h (fun h => ?_) (fun h => ?_)
    · refine y_iconst cx d_X12_laysLayers_54 55 rfl ?_
      refine y_istore cx d_X12_laysLayers_55 57 rfl (by decide) (lv' := [(4, .int (zI 0)), (0, .ref (g.2.2 0)), (1, .int (zI v1_6)), (2, .int (zI v2_7)), (3, .int (zI v3_11))]) rfl ?_
      refine y_iconst cx d_X12_laysLayers_57 58 rfl ?_
      refine y_istore cx d_X12_laysLayers_58 60 rfl (by decide) (lv' := [(5, .int (zI 0)), (4, .int (zI 0)), (0, .ref (g.2.2 0)), (1, .int (zI v1_6)), (2, .int (zI v2_7)), (3, .int (zI v3_11))]) rfl ?_
      refine z_sub [2, 3, 4, 5, 1, 0] rfl ?_
      refine lop2_f (P := fun (v4_15 : Int) (v5_16 : Int) => V p l e zrM_laysLayers s m args below meth c A s.heap g 6 Q (wM g u_10) 0 0 [(0, .ref (g.2.2 0)), (1, .int (zI v1_6)), (2, .int (zI v2_7)), (3, .int (zI v3_11)), (4, .int (zI v4_15)), (5, .int (zI v5_16))] 60 []) (fun rec_17 hrec_17 v4_15 v5_16 h => ?_) _ _ _ h
      refine z_iload cx d_X12_laysLayers_60 62 rfl 5 rfl ?_
      refine z_aload_n cx d_X12_laysLayers_62 63 rfl rfl 0 rfl ?_
      refine y_callV_i (As := []) (rest := [.int (zI v5_16)]) (W := fun u_18 => wM g u_10) (rf := fun u_18 => zI u_18) (rm := zr0) cx (fun _ hq => tM_points hq) d_X12_laysLayers_63 66 rfl kk_X12_points q_1641 q_1643 q_73 rfl e_M rfl ⟨rfl, rfl⟩ ⟨Nat.le_of_ble_eq_true rfl, Nat.le_of_ble_eq_true rfl⟩ rfl rfl (Nat.le_of_ble_eq_true rfl) ⟨Nat.zero_le _, Nat.zero_le _⟩ h (fun u_18 h => ?_)
      refine y_icmp_ge cx d_X12_laysLayers_66 69 rfl 106 (by decide) rfl rfl h (fun h => ?_) (fun h => ?_)
      · refine y_iconst cx d_X12_laysLayers_106 107 rfl ?_
        refine y_istore cx d_X12_laysLayers_107 109 rfl (by decide) (lv' := [(5, .int (zI 0)), (0, .ref (g.2.2 0)), (1, .int (zI v1_6)), (2, .int (zI v2_7)), (3, .int (zI v3_11)), (4, .int (zI v4_15))]) rfl ?_
        refine z_sub [1, 2, 3, 4, 5, 0] rfl ?_
        refine lop2_f (P := fun (v5_19 : Int) (M_20 : ZB) => V p l e zrM_laysLayers s m args below meth c A s.heap g 6 Q (wM g M_20) 0 0 [(0, .ref (g.2.2 0)), (1, .int (zI v1_6)), (2, .int (zI v2_7)), (3, .int (zI v3_11)), (4, .int (zI v4_15)), (5, .int (zI v5_19))] 109 []) (fun rec_21 hrec_21 v5_19 M_20 h => ?_) _ _ _ h
        refine z_iload cx d_X12_laysLayers_109 111 rfl 5 rfl ?_
        refine z_aload_n cx d_X12_laysLayers_111 112 rfl rfl 0 rfl ?_
        refine y_callV_i (As := []) (rest := [.int (zI v5_19)]) (W := fun u_22 => wM g M_20) (rf := fun u_22 => zI u_22) (rm := zr0) cx (fun _ hq => tM_points hq) d_X12_laysLayers_112 115 rfl kk_X12_points q_1641 q_1643 q_73 rfl e_M rfl ⟨rfl, rfl⟩ ⟨Nat.le_of_ble_eq_true rfl, Nat.le_of_ble_eq_true rfl⟩ rfl rfl (Nat.le_of_ble_eq_true rfl) ⟨Nat.zero_le _, Nat.zero_le _⟩ h (fun u_22 h => ?_)
        refine y_icmp_ge cx d_X12_laysLayers_115 118 rfl 142 (by decide) rfl rfl h (fun h => ?_) (fun h => ?_)
        · refine z_aload_n cx d_X12_laysLayers_142 143 rfl rfl 0 rfl ?_
          refine z_get cx d_X12_laysLayers_143 146 rfl e_M rfl zX12 39 (by decide) q_1400 rfl rfl ?_
          refine y_iconst cx d_X12_laysLayers_146 147 rfl ?_
          refine z_aload_n cx d_X12_laysLayers_147 148 rfl rfl 0 rfl ?_
          refine z_get cx d_X12_laysLayers_148 151 rfl e_M rfl zX12 40 (by decide) q_1401 rfl rfl ?_
          refine y_imul cx d_X12_laysLayers_151 152 rfl ?_
          refine z_aload_n cx d_X12_laysLayers_152 153 rfl rfl 0 rfl ?_
          refine z_get cx d_X12_laysLayers_153 156 rfl e_M rfl zX12 34 (by decide) q_1395 rfl rfl ?_
          refine y_iconst cx d_X12_laysLayers_156 157 rfl ?_
          refine y_ialdx cx d_X12_laysLayers_157 158 rfl e_M_found (by decide) h (fun x_23 h => ?_)
          refine y_iast cx d_X12_laysLayers_158 159 rfl e_M_layer (by decide) h (fun _ h9 => s_M_layer h9) (fun M_24 h => ?_)
          refine z_aload_n cx d_X12_laysLayers_159 160 rfl rfl 0 rfl ?_
          refine z_get cx d_X12_laysLayers_160 163 rfl e_M rfl zX12 39 (by decide) q_1400 rfl rfl ?_
          refine y_iconst cx d_X12_laysLayers_163 164 rfl ?_
          refine z_aload_n cx d_X12_laysLayers_164 165 rfl rfl 0 rfl ?_
          refine z_get cx d_X12_laysLayers_165 168 rfl e_M rfl zX12 40 (by decide) q_1401 rfl rfl ?_
          refine y_imul cx d_X12_laysLayers_168 169 rfl ?_
          refine y_iconst cx d_X12_laysLayers_169 170 rfl ?_
          refine y_iadd cx d_X12_laysLayers_170 171 rfl ?_
          refine z_aload_n cx d_X12_laysLayers_171 172 rfl rfl 0 rfl ?_
          refine z_get cx d_X12_laysLayers_172 175 rfl e_M rfl zX12 34 (by decide) q_1395 rfl rfl ?_
          refine y_iconst cx d_X12_laysLayers_175 176 rfl ?_
          refine y_ialdx cx d_X12_laysLayers_176 177 rfl e_M_found (by decide) h (fun x_25 h => ?_)
          refine y_iast cx d_X12_laysLayers_177 178 rfl e_M_layer (by decide) h (fun _ h9 => s_M_layer h9) (fun M_26 h => ?_)
          refine z_aload_n cx d_X12_laysLayers_178 179 rfl rfl 0 rfl ?_
          refine z_get cx d_X12_laysLayers_179 182 rfl e_M rfl zX12 39 (by decide) q_1400 rfl rfl ?_
          refine y_iconst cx d_X12_laysLayers_182 183 rfl ?_
          refine z_aload_n cx d_X12_laysLayers_183 184 rfl rfl 0 rfl ?_
          refine z_get cx d_X12_laysLayers_184 187 rfl e_M rfl zX12 40 (by decide) q_1401 rfl rfl ?_
          refine y_imul cx d_X12_laysLayers_187 188 rfl ?_
          refine y_iconst cx d_X12_laysLayers_188 189 rfl ?_
          refine y_iadd cx d_X12_laysLayers_189 190 rfl ?_
          refine z_iload cx d_X12_laysLayers_190 192 rfl 4 rfl ?_
          refine y_iast cx d_X12_laysLayers_192 193 rfl e_M_layer (by decide) h (fun _ h9 => s_M_layer h9) (fun M_27 h => ?_)
          refine z_aload_n cx d_X12_laysLayers_193 194 rfl rfl 0 rfl ?_
          refine z_dup cx d_X12_laysLayers_194 195 rfl rfl ?_
          refine z_get cx d_X12_laysLayers_195 198 rfl e_M rfl zX12 40 (by decide) q_1401 rfl rfl ?_
          refine y_iconst cx d_X12_laysLayers_198 199 rfl ?_
          refine y_iadd cx d_X12_laysLayers_199 200 rfl ?_
          refine y_put cx d_X12_laysLayers_200 203 rfl e_M rfl zX12 tyX12_ok nmX12 40 (by decide) q_1401 rfl rfl rfl rfl (Nat.le_of_ble_eq_true rfl) h (fun _ h9 => s_M_40 h9) (fun M_28 h => ?_)
          refine z_iload_n cx d_X12_laysLayers_203 204 rfl rfl 1 rfl ?_
          refine z_iload cx d_X12_laysLayers_204 206 rfl 4 rfl ?_
          refine y_iconst cx d_X12_laysLayers_206 207 rfl ?_
          refine y_ixor cx d_X12_laysLayers_207 208 rfl ?_
          refine y_iand cx d_X12_laysLayers_208 209 rfl ?_
          refine y_iconst cx d_X12_laysLayers_209 210 rfl ?_
          refine z_iload_n cx d_X12_laysLayers_210 211 rfl rfl 3 rfl ?_
          refine y_ishl cx d_X12_laysLayers_211 212 rfl ?_
          refine y_ior cx d_X12_laysLayers_212 213 rfl ?_
          refine y_istore_n_b cx d_X12_laysLayers_213 214 rfl rfl (by decide) (fun y => [(1, .int (zI y)), (0, .ref (g.2.2 0)), (2, .int (zI v2_7)), (3, .int (zI v3_11)), (4, .int (zI v4_15)), (5, .int (zI v5_19))]) (fun y => rfl) h (fun v1_29 h => ?_)
          refine y_iconst cx d_X12_laysLayers_214 215 rfl ?_
          refine y_istore cx d_X12_laysLayers_215 217 rfl (by decide) (lv' := [(5, .int (zI 0)), (1, .int (zI v1_29)), (0, .ref (g.2.2 0)), (2, .int (zI v2_7)), (3, .int (zI v3_11)), (4, .int (zI v4_15))]) rfl ?_
          refine z_sub [2, 1, 3, 0] rfl ?_
          refine lop2_f (P := fun (v2_30 : Int) (v5_31 : Int) => V p l e zrM_laysLayers s m args below meth c A s.heap g 6 Q (wM g M_28) 0 0 [(0, .ref (g.2.2 0)), (1, .int (zI v1_29)), (2, .int (zI v2_30)), (5, .int (zI v5_31))] 217 []) (fun rec_32 hrec_32 v2_30 v5_31 h => ?_) _ _ _ h
          refine z_iload cx d_X12_laysLayers_217 219 rfl 3 rfl ?_
          refine z_aload_n cx d_X12_laysLayers_219 220 rfl rfl 0 rfl ?_
          refine y_callV_i (As := []) (rest := [.int (zI v5_31)]) (W := fun u_33 => wM g M_28) (rf := fun u_33 => zI u_33) (rm := zr0) cx (fun _ hq => tM_lines hq) d_X12_laysLayers_220 223 rfl kk_X12_lines q_1582 q_1584 q_63 rfl e_M rfl ⟨rfl, rfl⟩ ⟨Nat.le_of_ble_eq_true rfl, Nat.le_of_ble_eq_true rfl⟩ rfl rfl (Nat.le_of_ble_eq_true rfl) ⟨Nat.zero_le _, Nat.zero_le _⟩ h (fun u_33 h => ?_)
          refine y_icmp_ge cx d_X12_laysLayers_223 226 rfl 273 (by decide) rfl rfl h (fun h => ?_) (fun h => ?_)
          · refine z_goto cx d_X12_laysLayers_273 23 (by decide) ?_
            refine z_sub [0, 1, 2] rfl ?_
            exact hrec_9 _ _ _ h
          · refine z_aload_n cx d_X12_laysLayers_226 227 rfl rfl 0 rfl ?_
            refine z_get cx d_X12_laysLayers_227 230 rfl e_M rfl zX12 35 (by decide) q_1396 rfl rfl ?_
            refine z_aload_n cx d_X12_laysLayers_230 231 rfl rfl 0 rfl ?_
            refine z_get cx d_X12_laysLayers_231 234 rfl e_M rfl zX12 12 (by decide) q_1373 rfl rfl ?_
            refine y_iconst cx d_X12_laysLayers_234 235 rfl ?_
            refine z_iload cx d_X12_laysLayers_235 237 rfl 3 rfl ?_
            refine y_iadd cx d_X12_laysLayers_237 238 rfl ?_
            refine y_ialdx cx d_X12_laysLayers_238 239 rfl e_M_now (by decide) h (fun x_34 h => ?_)
            refine y_ialdx cx d_X12_laysLayers_239 240 rfl e_M_standsFor (by decide) h (fun x_35 h => ?_)
            refine z_aload_n cx d_X12_laysLayers_240 241 rfl rfl 0 rfl ?_
            refine z_get cx d_X12_laysLayers_241 244 rfl e_M rfl zX12 35 (by decide) q_1396 rfl rfl ?_
            refine z_aload_n cx d_X12_laysLayers_244 245 rfl rfl 0 rfl ?_
            refine z_get cx d_X12_laysLayers_245 248 rfl e_M rfl zX12 12 (by decide) q_1373 rfl rfl ?_
            refine y_bipush cx d_X12_laysLayers_248 250 rfl (by decide) ?_
            refine z_iload cx d_X12_laysLayers_250 252 rfl 3 rfl ?_
            refine y_iadd cx d_X12_laysLayers_252 253 rfl ?_
            refine y_ialdx cx d_X12_laysLayers_253 254 rfl e_M_now (by decide) h (fun x_36 h => ?_)
            refine y_ialdx cx d_X12_laysLayers_254 255 rfl e_M_standsFor (by decide) h (fun x_37 h => ?_)
            refine kf1_f (P := fun (v2_38 : Int) => V p l e zrM_laysLayers s m args below meth c A s.heap g 6 Q (wM g M_28) 0 0 [(0, .ref (g.2.2 0)), (1, .int (zI v1_29)), (2, .int (zI v2_38)), (5, .int (zI v5_31))] 267 []) h (fun v2_38 h => ?_) (fun k_39 hk_39 h => ?_)
            · refine y_iinc cx 3 d_X12_laysLayers_267 270 rfl rfl (by decide) (lv' := [(5, .int (zI (v5_31 + 1))), (0, .ref (g.2.2 0)), (1, .int (zI v1_29)), (2, .int (zI v2_38))]) rfl ?_
              refine z_goto cx d_X12_laysLayers_270 217 (by decide) ?_
              refine z_sub [1, 2, 3, 0] rfl ?_
              exact hrec_32 _ _ h
            refine y_icmp_ne cx d_X12_laysLayers_255 258 rfl 267 (by decide) rfl rfl h (fun h => ?_) (fun h => ?_)
            · exact hk_39 _ h
            · refine z_iload_n cx d_X12_laysLayers_258 259 rfl rfl 2 rfl ?_
              refine y_iconst cx d_X12_laysLayers_259 260 rfl ?_
              refine z_iload cx d_X12_laysLayers_260 262 rfl 3 rfl ?_
              refine y_ishl cx d_X12_laysLayers_262 263 rfl ?_
              refine y_iconst cx d_X12_laysLayers_263 264 rfl ?_
              refine y_ixor cx d_X12_laysLayers_264 265 rfl ?_
              refine y_iand cx d_X12_laysLayers_265 266 rfl ?_
              refine y_istore_n_b cx d_X12_laysLayers_266 267 rfl rfl (by decide) (fun y => [(2, .int (zI y)), (0, .ref (g.2.2 0)), (1, .int (zI v1_29)), (5, .int (zI v5_31))]) (fun y => rfl) h (fun v2_40 h => ?_)
              refine z_sub [1, 2, 0, 3] rfl ?_
              exact hk_39 _ h
        · refine z_iload cx d_X12_laysLayers_118 120 rfl 4 rfl ?_
          refine z_iload cx d_X12_laysLayers_120 122 rfl 5 rfl ?_
          refine y_callS_i (As := [.int (zI v4_15), .int (zI v5_19)]) (rest := []) (W := fun u_41 => wM g M_20) (rf := fun u_41 => zI u_41) (rm := zr0) cx (fun _ hq => tM_has hq) d_X12_laysLayers_122 125 rfl kk_X12_has q_1626 q_1627 ⟨rfl, rfl⟩ ⟨Nat.le_of_ble_eq_true rfl, Nat.le_of_ble_eq_true rfl⟩ rfl rfl (Nat.le_of_ble_eq_true rfl) ⟨Nat.zero_le _, Nat.zero_le _⟩ h (fun u_41 h => ?_)
          refine kf1_f (P := fun (M_42 : ZB) => V p l e zrM_laysLayers s m args below meth c A s.heap g 6 Q (wM g M_42) 0 0 [(0, .ref (g.2.2 0)), (1, .int (zI v1_6)), (2, .int (zI v2_7)), (3, .int (zI v3_11)), (4, .int (zI v4_15)), (5, .int (zI v5_19))] 136 []) h (fun M_42 h => ?_) (fun k_43 hk_43 h => ?_)
          · refine y_iinc cx 5 d_X12_laysLayers_136 139 rfl rfl (by decide) (lv' := [(5, .int (zI (v5_19 + 1))), (0, .ref (g.2.2 0)), (1, .int (zI v1_6)), (2, .int (zI v2_7)), (3, .int (zI v3_11)), (4, .int (zI v4_15))]) rfl ?_
            refine z_goto cx d_X12_laysLayers_139 109 (by decide) ?_
            refine z_sub [1, 2, 3, 4, 5, 0] rfl ?_
            exact hrec_21 _ _ h
          refine y_if_eq cx d_X12_laysLayers_125 128 rfl 136 (by decide) rfl h (fun h => ?_) (fun h => ?_)
          · exact hk_43 _ h
          · refine z_aload_n cx d_X12_laysLayers_128 129 rfl rfl 0 rfl ?_
            refine z_get cx d_X12_laysLayers_129 132 rfl e_M rfl zX12 35 (by decide) q_1396 rfl rfl ?_
            refine z_iload cx d_X12_laysLayers_132 134 rfl 5 rfl ?_
            refine z_iload_n cx d_X12_laysLayers_134 135 rfl rfl 3 rfl ?_
            refine y_iast cx d_X12_laysLayers_135 136 rfl e_M_standsFor (by decide) h (fun _ h9 => s_M_standsFor h9) (fun M_44 h => ?_)
            exact hk_43 _ h
      · refine z_aload_n cx d_X12_laysLayers_69 70 rfl rfl 0 rfl ?_
        refine z_get cx d_X12_laysLayers_70 73 rfl e_M rfl zX12 34 (by decide) q_1395 rfl rfl ?_
        refine y_iconst cx d_X12_laysLayers_73 74 rfl ?_
        refine y_ialdx cx d_X12_laysLayers_74 75 rfl e_M_found (by decide) h (fun x_45 h => ?_)
        refine z_aload_n cx d_X12_laysLayers_75 76 rfl rfl 0 rfl ?_
        refine z_get cx d_X12_laysLayers_76 79 rfl e_M rfl zX12 35 (by decide) q_1396 rfl rfl ?_
        refine z_iload cx d_X12_laysLayers_79 81 rfl 5 rfl ?_
        refine y_ialdx cx d_X12_laysLayers_81 82 rfl e_M_standsFor (by decide) h (fun x_46 h => ?_)
        refine y_callS_i (As := [.int (zI x_45), .int (zI x_46)]) (rest := []) (W := fun u_47 => wM g u_10) (rf := fun u_47 => zI u_47) (rm := zr0) cx (fun _ hq => tM_has hq) d_X12_laysLayers_82 85 rfl kk_X12_has q_1626 q_1627 ⟨rfl, rfl⟩ ⟨Nat.le_of_ble_eq_true rfl, Nat.le_of_ble_eq_true rfl⟩ rfl rfl (Nat.le_of_ble_eq_true rfl) ⟨Nat.zero_le _, Nat.zero_le _⟩ h (fun u_47 h => ?_)
        refine kf1_f (P := fun (v4_48 : Int) => V p l e zrM_laysLayers s m args below meth c A s.heap g 6 Q (wM g u_10) 0 0 [(0, .ref (g.2.2 0)), (1, .int (zI v1_6)), (2, .int (zI v2_7)), (3, .int (zI v3_11)), (4, .int (zI v4_48)), (5, .int (zI v5_16))] 100 []) h (fun v4_48 h => ?_) (fun k_49 hk_49 h => ?_)
        · refine y_iinc cx 5 d_X12_laysLayers_100 103 rfl rfl (by decide) (lv' := [(5, .int (zI (v5_16 + 1))), (0, .ref (g.2.2 0)), (1, .int (zI v1_6)), (2, .int (zI v2_7)), (3, .int (zI v3_11)), (4, .int (zI v4_48))]) rfl ?_
          refine z_goto cx d_X12_laysLayers_103 60 (by decide) ?_
          refine z_sub [1, 2, 3, 4, 5, 0] rfl ?_
          exact hrec_17 _ _ h
        refine y_if_ne cx d_X12_laysLayers_85 88 rfl 91 (by decide) rfl h (fun h => ?_) (fun h => ?_)
        · refine z_iload cx d_X12_laysLayers_91 93 rfl 4 rfl ?_
          refine y_iconst cx d_X12_laysLayers_93 94 rfl ?_
          refine z_iload cx d_X12_laysLayers_94 96 rfl 5 rfl ?_
          refine y_ishl cx d_X12_laysLayers_96 97 rfl ?_
          refine y_ior cx d_X12_laysLayers_97 98 rfl ?_
          refine y_istore_b cx d_X12_laysLayers_98 100 rfl (by decide) (fun y => [(4, .int (zI y)), (0, .ref (g.2.2 0)), (1, .int (zI v1_6)), (2, .int (zI v2_7)), (3, .int (zI v3_11)), (5, .int (zI v5_16))]) (fun y => rfl) h (fun v4_50 h => ?_)
          refine z_sub [1, 2, 3, 4, 0, 5] rfl ?_
          exact hk_49 _ h
        · refine z_goto cx d_X12_laysLayers_88 100 (by decide) ?_
          exact hk_49 _ h
    · refine y_iinc cx 3 d_X12_laysLayers_48 51 rfl rfl (by decide) (lv' := [(3, .int (zI (v3_11 + 1))), (0, .ref (g.2.2 0)), (1, .int (zI v1_6)), (2, .int (zI v2_7))]) rfl ?_
      refine z_goto cx d_X12_laysLayers_51 35 (by decide) ?_
      refine z_sub [1, 2, 3, 0] rfl ?_
      exact hrec_12 _ h
def zrM_layers : Room := { frames := 3, cells := 0, slots := 0, locals := 73 }
set_option maxHeartbeats 4000000 in
theorem tM_layers {l : Launch} {g : ZG} {M : ZB}  {r : Int × ZB} (h : fM_layers M = some r) : zMi l yX12_layers cX12_layers 1 (some .int) zrM_layers g [.ref (g.2.2 0)] (wM g M) (wM g r.2) (zI r.1) := by
  unfold fM_layers at h
  refine zMi_q (own := RX12) rfl (by decide +kernel) (Nat.le_of_ble_eq_true rfl) (lv := [(0, .ref (g.2.2 0))]) rfl ⟨rfl, rfl⟩ ?_
  intro p e s m args below meth c A Q hQ cx
  refine z_aload_n cx d_X12_layers_0 1 rfl rfl 0 rfl ?_
  refine y_iconst cx d_X12_layers_1 2 rfl ?_
  refine y_put cx d_X12_layers_2 5 rfl e_M rfl zX12 tyX12_ok nmX12 0 (by decide) q_1361 rfl rfl rfl rfl (Nat.le_of_ble_eq_true rfl) h (fun _ h9 => s_M_0 h9) (fun M_1 h => ?_)
  refine z_aload_n cx d_X12_layers_5 6 rfl rfl 0 rfl ?_
  refine y_callV_v (As := []) (rest := []) (W := fun u_2 => wM g u_2) (rm := zrM_laysLayers) cx (fun _ hq => tM_laysLayers hq) d_X12_layers_6 9 rfl kk_X12_laysLayers q_1901 q_1903 q_107 rfl e_M rfl ⟨rfl, rfl⟩ ⟨Nat.le_of_ble_eq_true rfl, Nat.le_of_ble_eq_true rfl⟩ rfl rfl (Nat.le_of_ble_eq_true rfl) ⟨Nat.zero_le _, Nat.zero_le _⟩ h (fun u_2 h => ?_)
  refine z_aload_n cx d_X12_layers_9 10 rfl rfl 0 rfl ?_
  refine z_get cx d_X12_layers_10 13 rfl e_M rfl zX12 40 (by decide) q_1401 rfl rfl ?_
  subst hQ
  obtain rfl := Option.some.inj h
  exact z_iret cx d_X12_layers_13 rfl rfl
def zrM_layerAt : Room := { frames := 62, cells := 0, slots := 0, locals := 1304 }
set_option maxHeartbeats 4000000 in
theorem tM_layerAt {l : Launch} {g : ZG} {M : ZB} {a1 : Int} {a2 : Int} {r : Int × ZB} (h : fM_layerAt M a1 a2 = some r) : zMi l yX12_layerAt cX12_layerAt 3 (some .int) zrM_layerAt g [.ref (g.2.2 0), .int (zI a1), .int (zI a2)] (wM g M) (wM g r.2) (zI r.1) := by
  unfold fM_layerAt at h
  refine zMi_q (own := RX12) rfl (by decide +kernel) (Nat.le_of_ble_eq_true rfl) (lv := [(0, .ref (g.2.2 0)), (1, .int (zI a1)), (2, .int (zI a2))]) rfl ⟨rfl, rfl⟩ ?_
  intro p e s m args below meth c A Q hQ cx
  refine z_aload_n cx d_X12_layerAt_0 1 rfl rfl 0 rfl ?_
  refine y_iconst cx d_X12_layerAt_1 2 rfl ?_
  refine y_put cx d_X12_layerAt_2 5 rfl e_M rfl zX12 tyX12_ok nmX12 0 (by decide) q_1361 rfl rfl rfl rfl (Nat.le_of_ble_eq_true rfl) h (fun _ h9 => s_M_0 h9) (fun M_1 h => ?_)
  refine z_aload_n cx d_X12_layerAt_5 6 rfl rfl 0 rfl ?_
  refine y_callV_v (As := []) (rest := []) (W := fun u_2 => wM g u_2) (rm := zrM_laysLayers) cx (fun _ hq => tM_laysLayers hq) d_X12_layerAt_6 9 rfl kk_X12_laysLayers q_1901 q_1903 q_107 rfl e_M rfl ⟨rfl, rfl⟩ ⟨Nat.le_of_ble_eq_true rfl, Nat.le_of_ble_eq_true rfl⟩ rfl rfl (Nat.le_of_ble_eq_true rfl) ⟨Nat.zero_le _, Nat.zero_le _⟩ h (fun u_2 h => ?_)
  refine z_iload_n cx d_X12_layerAt_9 10 rfl rfl 1 rfl ?_
  refine y_iconst cx d_X12_layerAt_10 11 rfl ?_
  refine z_aload_n cx d_X12_layerAt_11 12 rfl rfl 0 rfl ?_
  refine z_get cx d_X12_layerAt_12 15 rfl e_M rfl zX12 40 (by decide) q_1401 rfl rfl ?_
  refine y_iconst cx d_X12_layerAt_15 16 rfl ?_
  refine y_isub cx d_X12_layerAt_16 17 rfl ?_
  refine y_callS_i (As := [.int (zI a1), .int (zI 0), .int (zI ((u_2.1 40) - 1))]) (rest := []) (W := fun u_3 => wM g u_2) (rf := fun u_3 => zI u_3) (rm := zr0) cx (fun _ hq => tM_isIn hq) d_X12_layerAt_17 20 rfl kk_X12_isIn q_1552 q_1553 ⟨rfl, rfl⟩ ⟨Nat.le_of_ble_eq_true rfl, Nat.le_of_ble_eq_true rfl⟩ rfl rfl (Nat.le_of_ble_eq_true rfl) ⟨Nat.zero_le _, Nat.zero_le _⟩ h (fun u_3 h => ?_)
  refine kf0_f (P := V p l e zrM_layerAt s m args below meth c A s.heap g 3 Q (wM g u_2) 0 0 [] 32 []) h (fun h => ?_) (fun k_4 hk_4 h => ?_)
  · refine y_iconst cx d_X12_layerAt_32 33 rfl ?_
    subst hQ
    obtain rfl := Option.some.inj h
    exact z_iret cx d_X12_layerAt_33 rfl rfl
  refine y_if_eq cx d_X12_layerAt_20 23 rfl 32 (by decide) rfl h (fun h => ?_) (fun h => ?_)
  · refine z_sub [] rfl ?_
    exact hk_4  h
  · refine z_iload_n cx d_X12_layerAt_23 24 rfl rfl 2 rfl ?_
    refine y_iconst cx d_X12_layerAt_24 25 rfl ?_
    refine y_iconst cx d_X12_layerAt_25 26 rfl ?_
    refine y_callS_i (As := [.int (zI a2), .int (zI 0), .int (zI 2)]) (rest := []) (W := fun u_5 => wM g u_2) (rf := fun u_5 => zI u_5) (rm := zr0) cx (fun _ hq => tM_isIn hq) d_X12_layerAt_26 29 rfl kk_X12_isIn q_1552 q_1553 ⟨rfl, rfl⟩ ⟨Nat.le_of_ble_eq_true rfl, Nat.le_of_ble_eq_true rfl⟩ rfl rfl (Nat.le_of_ble_eq_true rfl) ⟨Nat.zero_le _, Nat.zero_le _⟩ h (fun u_5 h => ?_)
    refine y_if_ne cx d_X12_layerAt_29 32 rfl 34 (by decide) rfl h (fun h => ?_) (fun h => ?_)
    · refine z_iload_n cx d_X12_layerAt_34 35 rfl rfl 2 rfl ?_
      refine y_iconst cx d_X12_layerAt_35 36 rfl ?_
      refine kf1_f (P := fun (w0_6 : Int) => V p l e zrM_layerAt s m args below meth c A s.heap g 3 Q (wM g u_2) 0 0 [] 74 [.int (zI w0_6)]) h (fun w0_6 h => ?_) (fun k_7 hk_7 h => ?_)
      · subst hQ
        obtain rfl := Option.some.inj h
        exact z_iret cx d_X12_layerAt_74 rfl rfl
      refine y_icmp_ne cx d_X12_layerAt_36 39 rfl 52 (by decide) rfl (nm_eq (x := 2) (by decide) (by decide)) h (fun h => ?_) (fun h => ?_)
      · refine z_aload_n cx d_X12_layerAt_52 53 rfl rfl 0 rfl ?_
        refine z_get cx d_X12_layerAt_53 56 rfl e_M rfl zX12 39 (by decide) q_1400 rfl rfl ?_
        refine y_iconst cx d_X12_layerAt_56 57 rfl ?_
        refine z_iload_n cx d_X12_layerAt_57 58 rfl rfl 1 rfl ?_
        refine y_imul cx d_X12_layerAt_58 59 rfl ?_
        refine y_ialdx cx d_X12_layerAt_59 60 rfl e_M_layer (by decide) h (fun x_8 h => ?_)
        refine z_aload_n cx d_X12_layerAt_60 61 rfl rfl 0 rfl ?_
        refine z_get cx d_X12_layerAt_61 64 rfl e_M rfl zX12 39 (by decide) q_1400 rfl rfl ?_
        refine y_iconst cx d_X12_layerAt_64 65 rfl ?_
        refine z_iload_n cx d_X12_layerAt_65 66 rfl rfl 1 rfl ?_
        refine y_imul cx d_X12_layerAt_66 67 rfl ?_
        refine y_iconst cx d_X12_layerAt_67 68 rfl ?_
        refine y_iadd cx d_X12_layerAt_68 69 rfl ?_
        refine y_ialdx cx d_X12_layerAt_69 70 rfl e_M_layer (by decide) h (fun x_9 h => ?_)
        refine z_iload_n cx d_X12_layerAt_70 71 rfl rfl 2 rfl ?_
        refine y_callS_i (As := [.int (zI x_8), .int (zI x_9), .int (zI a2)]) (rest := []) (W := fun u_10 => wM g u_2) (rf := fun u_10 => zI u_10) (rm := zrM_part) cx (fun _ hq => tM_part hq) d_X12_layerAt_71 74 rfl kk_X12_part q_1851 q_1852 ⟨rfl, rfl⟩ ⟨Nat.le_of_ble_eq_true rfl, Nat.le_of_ble_eq_true rfl⟩ rfl rfl (Nat.le_of_ble_eq_true rfl) ⟨Nat.zero_le _, Nat.zero_le _⟩ h (fun u_10 h => ?_)
        refine z_sub [] rfl ?_
        exact hk_7 _ h
      · refine z_aload_n cx d_X12_layerAt_39 40 rfl rfl 0 rfl ?_
        refine z_get cx d_X12_layerAt_40 43 rfl e_M rfl zX12 39 (by decide) q_1400 rfl rfl ?_
        refine y_iconst cx d_X12_layerAt_43 44 rfl ?_
        refine z_iload_n cx d_X12_layerAt_44 45 rfl rfl 1 rfl ?_
        refine y_imul cx d_X12_layerAt_45 46 rfl ?_
        refine y_iconst cx d_X12_layerAt_46 47 rfl ?_
        refine y_iadd cx d_X12_layerAt_47 48 rfl ?_
        refine y_ialdx cx d_X12_layerAt_48 49 rfl e_M_layer (by decide) h (fun x_11 h => ?_)
        refine z_goto cx d_X12_layerAt_49 74 (by decide) ?_
        refine z_sub [] rfl ?_
        exact hk_7 _ h
    · refine z_sub [] rfl ?_
      exact hk_4  h
def zrM_lightest : Room := { frames := 1, cells := 0, slots := 0, locals := 21 }
set_option maxHeartbeats 4000000 in
theorem tM_lightest {l : Launch} {g : ZG} {M : ZB} {a1 : Int} {r : Int} (h : fM_lightest M a1 = some r) : zMi l yX12_lightest cX12_lightest 4 (some .int) zrM_lightest g [.ref (g.2.2 0), .int (zI a1)] (wM g M) (wM g M) (zI r) := by
  unfold fM_lightest at h
  refine zMi_q (own := RX12) rfl (by decide +kernel) (Nat.le_of_ble_eq_true rfl) (lv := [(0, .ref (g.2.2 0)), (1, .int (zI a1))]) rfl ⟨rfl, rfl⟩ ?_
  intro p e s m args below meth c A Q hQ cx
  refine y_iconst cx d_X12_lightest_0 1 rfl ?_
  refine y_istore_n cx d_X12_lightest_1 2 rfl rfl (by decide) (lv' := [(2, .int (zI (-1))), (0, .ref (g.2.2 0)), (1, .int (zI a1))]) rfl ?_
  refine y_iconst cx d_X12_lightest_2 3 rfl ?_
  refine y_istore_n cx d_X12_lightest_3 4 rfl rfl (by decide) (lv' := [(3, .int (zI 0)), (2, .int (zI (-1))), (0, .ref (g.2.2 0)), (1, .int (zI a1))]) rfl ?_
  refine z_sub [2, 3, 1, 0] rfl ?_
  refine lop2_f (P := fun (v2_1 : Int) (v3_2 : Int) => V p l e zrM_lightest s m args below meth c A s.heap g 4 Q (wM g M) 0 0 [(0, .ref (g.2.2 0)), (1, .int (zI a1)), (2, .int (zI v2_1)), (3, .int (zI v3_2))] 4 []) (fun rec_3 hrec_3 v2_1 v3_2 h => ?_) _ _ _ h
  refine z_iload_n cx d_X12_lightest_4 5 rfl rfl 3 rfl ?_
  refine z_aload_n cx d_X12_lightest_5 6 rfl rfl 0 rfl ?_
  refine y_callV_i (As := []) (rest := [.int (zI v3_2)]) (W := fun u_4 => wM g M) (rf := fun u_4 => zI u_4) (rm := zr0) cx (fun _ hq => tM_lines hq) d_X12_lightest_6 9 rfl kk_X12_lines q_1582 q_1584 q_63 rfl e_M rfl ⟨rfl, rfl⟩ ⟨Nat.le_of_ble_eq_true rfl, Nat.le_of_ble_eq_true rfl⟩ rfl rfl (Nat.le_of_ble_eq_true rfl) ⟨Nat.zero_le _, Nat.zero_le _⟩ h (fun u_4 h => ?_)
  refine y_icmp_ge cx d_X12_lightest_9 12 rfl 54 (by decide) rfl rfl h (fun h => ?_) (fun h => ?_)
  · refine z_iload_n cx d_X12_lightest_54 55 rfl rfl 2 rfl ?_
    subst hQ
    obtain rfl := Option.some.inj h
    exact z_iret cx d_X12_lightest_55 rfl rfl
  · refine z_iload_n cx d_X12_lightest_12 13 rfl rfl 1 rfl ?_
    refine z_iload_n cx d_X12_lightest_13 14 rfl rfl 3 rfl ?_
    refine y_callS_i (As := [.int (zI a1), .int (zI v3_2)]) (rest := []) (W := fun u_5 => wM g M) (rf := fun u_5 => zI u_5) (rm := zr0) cx (fun _ hq => tM_has hq) d_X12_lightest_14 17 rfl kk_X12_has q_1626 q_1627 ⟨rfl, rfl⟩ ⟨Nat.le_of_ble_eq_true rfl, Nat.le_of_ble_eq_true rfl⟩ rfl rfl (Nat.le_of_ble_eq_true rfl) ⟨Nat.zero_le _, Nat.zero_le _⟩ h (fun u_5 h => ?_)
    refine kf1_f (P := fun (v2_6 : Int) => V p l e zrM_lightest s m args below meth c A s.heap g 4 Q (wM g M) 0 0 [(0, .ref (g.2.2 0)), (1, .int (zI a1)), (2, .int (zI v2_6)), (3, .int (zI v3_2))] 48 []) h (fun v2_6 h => ?_) (fun k_7 hk_7 h => ?_)
    · refine y_iinc cx 3 d_X12_lightest_48 51 rfl rfl (by decide) (lv' := [(3, .int (zI (v3_2 + 1))), (0, .ref (g.2.2 0)), (1, .int (zI a1)), (2, .int (zI v2_6))]) rfl ?_
      refine z_goto cx d_X12_lightest_51 4 (by decide) ?_
      refine z_sub [1, 2, 3, 0] rfl ?_
      exact hrec_3 _ _ h
    refine y_if_eq cx d_X12_lightest_17 20 rfl 48 (by decide) rfl h (fun h => ?_) (fun h => ?_)
    · exact hk_7 _ h
    · refine z_iload_n cx d_X12_lightest_20 21 rfl rfl 2 rfl ?_
      refine y_iconst cx d_X12_lightest_21 22 rfl ?_
      refine kf0_f (P := V p l e zrM_lightest s m args below meth c A s.heap g 4 Q (wM g M) 0 0 [(0, .ref (g.2.2 0)), (1, .int (zI a1)), (3, .int (zI v3_2))] 46 []) h (fun h => ?_) (fun k_8 hk_8 h => ?_)
      · refine z_iload_n cx d_X12_lightest_46 47 rfl rfl 2 rfl ?_
        refine y_istore_n cx d_X12_lightest_47 48 rfl rfl (by decide) (lv' := [(2, .int (zI v3_2)), (0, .ref (g.2.2 0)), (1, .int (zI a1)), (3, .int (zI v3_2))]) rfl ?_
        refine z_sub [1, 2, 0, 3] rfl ?_
        exact hk_7 _ h
      refine y_icmp_eq cx d_X12_lightest_22 25 rfl 46 (by decide) rfl (nm_eq (x := (-1)) (by decide) (by decide)) h (fun h => ?_) (fun h => ?_)
      · refine z_sub [0, 1, 3] rfl ?_
        exact hk_8  h
      · refine z_aload_n cx d_X12_lightest_25 26 rfl rfl 0 rfl ?_
        refine z_get cx d_X12_lightest_26 29 rfl e_M rfl zX12 12 (by decide) q_1373 rfl rfl ?_
        refine y_bipush cx d_X12_lightest_29 31 rfl (by decide) ?_
        refine z_iload_n cx d_X12_lightest_31 32 rfl rfl 3 rfl ?_
        refine y_iadd cx d_X12_lightest_32 33 rfl ?_
        refine y_ialdx cx d_X12_lightest_33 34 rfl e_M_now (by decide) h (fun x_9 h => ?_)
        refine z_aload_n cx d_X12_lightest_34 35 rfl rfl 0 rfl ?_
        refine z_get cx d_X12_lightest_35 38 rfl e_M rfl zX12 12 (by decide) q_1373 rfl rfl ?_
        refine y_bipush cx d_X12_lightest_38 40 rfl (by decide) ?_
        refine z_iload_n cx d_X12_lightest_40 41 rfl rfl 2 rfl ?_
        refine y_iadd cx d_X12_lightest_41 42 rfl ?_
        refine y_ialdx cx d_X12_lightest_42 43 rfl e_M_now (by decide) h (fun x_10 h => ?_)
        refine y_icmp_ge cx d_X12_lightest_43 46 rfl 48 (by decide) rfl rfl h (fun h => ?_) (fun h => ?_)
        · exact hk_7 _ h
        · refine z_sub [0, 1, 3] rfl ?_
          exact hk_8  h
def zrM_light : Room := { frames := 3, cells := 0, slots := 0, locals := 69 }
set_option maxHeartbeats 4000000 in
theorem tM_light {l : Launch} {g : ZG} {M : ZB} {a1 : Int} {a2 : Int} {r : Int × ZB} (h : fM_light M a1 a2 = some r) : zMi l yX12_light cX12_light 7 (some .int) zrM_light g [.ref (g.2.2 0), .int (zI a1), .int (zI a2)] (wM g M) (wM g r.2) (zI r.1) := by
  unfold fM_light at h
  refine zMi_q (own := RX12) rfl (by decide +kernel) (Nat.le_of_ble_eq_true rfl) (lv := [(0, .ref (g.2.2 0)), (1, .int (zI a1)), (2, .int (zI a2))]) rfl ⟨rfl, rfl⟩ ?_
  intro p e s m args below meth c A Q hQ cx
  refine z_aload_n cx d_X12_light_0 1 rfl rfl 0 rfl ?_
  refine y_iconst cx d_X12_light_1 2 rfl ?_
  refine y_put cx d_X12_light_2 5 rfl e_M rfl zX12 tyX12_ok nmX12 0 (by decide) q_1361 rfl rfl rfl rfl (Nat.le_of_ble_eq_true rfl) h (fun _ h9 => s_M_0 h9) (fun M_1 h => ?_)
  refine z_iload_n cx d_X12_light_5 6 rfl rfl 1 rfl ?_
  refine y_callS_i (As := [.int (zI a1)]) (rest := []) (W := fun u_2 => wM g M_1) (rf := fun u_2 => zI u_2) (rm := zrM_isCount) cx (fun _ hq => tM_isCount hq) d_X12_light_6 9 rfl kk_X12_isCount q_1812 q_1813 ⟨rfl, rfl⟩ ⟨Nat.le_of_ble_eq_true rfl, Nat.le_of_ble_eq_true rfl⟩ rfl rfl (Nat.le_of_ble_eq_true rfl) ⟨Nat.zero_le _, Nat.zero_le _⟩ h (fun u_2 h => ?_)
  refine kf0_f (P := V p l e zrM_light s m args below meth c A s.heap g 7 Q (wM g M_1) 0 0 [] 21 []) h (fun h => ?_) (fun k_3 hk_3 h => ?_)
  · refine y_iconst cx d_X12_light_21 22 rfl ?_
    subst hQ
    obtain rfl := Option.some.inj h
    exact z_iret cx d_X12_light_22 rfl rfl
  refine y_if_eq cx d_X12_light_9 12 rfl 21 (by decide) rfl h (fun h => ?_) (fun h => ?_)
  · refine z_sub [] rfl ?_
    exact hk_3  h
  · refine z_iload_n cx d_X12_light_12 13 rfl rfl 2 rfl ?_
    refine y_iconst cx d_X12_light_13 14 rfl ?_
    refine y_iconst cx d_X12_light_14 15 rfl ?_
    refine y_callS_i (As := [.int (zI a2), .int (zI 0), .int (zI 1)]) (rest := []) (W := fun u_4 => wM g M_1) (rf := fun u_4 => zI u_4) (rm := zr0) cx (fun _ hq => tM_isIn hq) d_X12_light_15 18 rfl kk_X12_isIn q_1552 q_1553 ⟨rfl, rfl⟩ ⟨Nat.le_of_ble_eq_true rfl, Nat.le_of_ble_eq_true rfl⟩ rfl rfl (Nat.le_of_ble_eq_true rfl) ⟨Nat.zero_le _, Nat.zero_le _⟩ h (fun u_4 h => ?_)
    refine y_if_ne cx d_X12_light_18 21 rfl 23 (by decide) rfl h (fun h => ?_) (fun h => ?_)
    · refine y_iconst cx d_X12_light_23 24 rfl ?_
      refine y_istore_n cx d_X12_light_24 25 rfl rfl (by decide) (lv' := [(3, .int (zI 0)), (0, .ref (g.2.2 0)), (1, .int (zI a1)), (2, .int (zI a2))]) rfl ?_
      refine y_iconst cx d_X12_light_25 26 rfl ?_
      refine y_istore cx d_X12_light_26 28 rfl (by decide) (lv' := [(4, .int (zI 0)), (3, .int (zI 0)), (0, .ref (g.2.2 0)), (1, .int (zI a1)), (2, .int (zI a2))]) rfl ?_
      refine z_aload_n cx d_X12_light_28 29 rfl rfl 2 rfl ?_
      refine y_callV_i (As := []) (rest := []) (W := fun u_5 => wM g M_1) (rf := fun u_5 => zI u_5) (rm := zrM_sound) cx (fun _ hq => tM_sound hq) d_X12_light_29 32 rfl kk_X12_sound q_1645 q_1647 q_74 rfl e_M rfl ⟨rfl, rfl⟩ ⟨Nat.le_of_ble_eq_true rfl, Nat.le_of_ble_eq_true rfl⟩ rfl rfl (Nat.le_of_ble_eq_true rfl) ⟨Nat.zero_le _, Nat.zero_le _⟩ h (fun u_5 h => ?_)
      refine y_istore cx d_X12_light_32 34 rfl (by decide) (lv' := [(5, .int (zI u_5)), (4, .int (zI 0)), (3, .int (zI 0)), (0, .ref (g.2.2 0)), (1, .int (zI a1)), (2, .int (zI a2))]) rfl ?_
      refine z_sub [3, 4, 5, 2, 1, 0] rfl ?_
      refine lop3_f (P := fun (v3_6 : Int) (v4_7 : Int) (v5_8 : Int) => V p l e zrM_light s m args below meth c A s.heap g 7 Q (wM g M_1) 0 0 [(0, .ref (g.2.2 0)), (1, .int (zI a1)), (2, .int (zI a2)), (3, .int (zI v3_6)), (4, .int (zI v4_7)), (5, .int (zI v5_8))] 34 []) (fun rec_9 hrec_9 v3_6 v4_7 v5_8 h => ?_) _ _ _ _ h
      refine z_iload cx d_X12_light_34 36 rfl 5 rfl ?_
      refine y_if_eq cx d_X12_light_36 39 rfl 97 (by decide) rfl h (fun h => ?_) (fun h => ?_)
      · refine z_iload_n cx d_X12_light_97 98 rfl rfl 2 rfl ?_
        refine kf1_f (P := fun (w0_10 : Int) => V p l e zrM_light s m args below meth c A s.heap g 7 Q (wM g M_1) 0 0 [] 107 [.int (zI w0_10)]) h (fun w0_10 h => ?_) (fun k_11 hk_11 h => ?_)
        · subst hQ
          obtain rfl := Option.some.inj h
          exact z_iret cx d_X12_light_107 rfl rfl
        refine y_if_ne cx d_X12_light_98 101 rfl 106 (by decide) rfl h (fun h => ?_) (fun h => ?_)
        · refine z_iload_n cx d_X12_light_106 107 rfl rfl 3 rfl ?_
          refine z_sub [] rfl ?_
          exact hk_11 _ h
        · refine z_iload cx d_X12_light_101 103 rfl 4 rfl ?_
          refine z_goto cx d_X12_light_103 107 (by decide) ?_
          refine z_sub [] rfl ?_
          exact hk_11 _ h
      · refine z_aload_n cx d_X12_light_39 40 rfl rfl 0 rfl ?_
        refine z_iload cx d_X12_light_40 42 rfl 5 rfl ?_
        refine y_callV_i (As := [.int (zI v5_8)]) (rest := []) (W := fun u_12 => wM g M_1) (rf := fun u_12 => zI u_12) (rm := zrM_lightest) cx (fun _ hq => tM_lightest hq) d_X12_light_42 45 rfl kk_X12_lightest q_1913 q_1915 q_108 rfl e_M rfl ⟨rfl, rfl⟩ ⟨Nat.le_of_ble_eq_true rfl, Nat.le_of_ble_eq_true rfl⟩ rfl rfl (Nat.le_of_ble_eq_true rfl) ⟨Nat.zero_le _, Nat.zero_le _⟩ h (fun u_12 h => ?_)
        refine y_istore cx d_X12_light_45 47 rfl (by decide) (lv' := [(6, .int (zI u_12)), (0, .ref (g.2.2 0)), (1, .int (zI a1)), (2, .int (zI a2)), (3, .int (zI v3_6)), (4, .int (zI v4_7)), (5, .int (zI v5_8))]) rfl ?_
        refine z_iload cx d_X12_light_47 49 rfl 6 rfl ?_
        refine y_iconst cx d_X12_light_49 50 rfl ?_
        refine z_iload cx d_X12_light_50 52 rfl 0 rfl ?_
        refine y_ishl cx d_X12_light_52 53 rfl ?_
        refine y_iconst cx d_X12_light_53 54 rfl ?_
        refine y_ixor cx d_X12_light_54 55 rfl ?_
        refine y_iand cx d_X12_light_55 56 rfl ?_
        refine y_istore_b cx d_X12_light_56 58 rfl (by decide) (fun y => [(5, .int (zI y)), (6, .int (zI u_12)), (0, .ref (g.2.2 0)), (1, .int (zI a1)), (2, .int (zI a2)), (3, .int (zI v3_6)), (4, .int (zI v4_7))]) (fun y => rfl) h (fun v5_13 h => ?_)
        refine z_aload_n cx d_X12_light_58 59 rfl rfl 2 rfl ?_
        refine z_iload cx d_X12_light_59 61 rfl 1 rfl ?_
        refine z_iload_n cx d_X12_light_61 62 rfl rfl 5 rfl ?_
        refine z_iload_n cx d_X12_light_62 63 rfl rfl 3 rfl ?_
        refine y_callV_i (As := [.int (zI u_12), .int (zI v3_6), .int (zI a1)]) (rest := []) (W := fun u_14 => wM g M_1) (rf := fun u_14 => zI u_14) (rm := zrM_canJoin) cx (fun _ hq => tM_canJoin hq) d_X12_light_63 66 rfl kk_X12_canJoin q_1819 q_1821 q_98 rfl e_M rfl ⟨rfl, rfl⟩ ⟨Nat.le_of_ble_eq_true rfl, Nat.le_of_ble_eq_true rfl⟩ rfl rfl (Nat.le_of_ble_eq_true rfl) ⟨Nat.zero_le _, Nat.zero_le _⟩ h (fun u_14 h => ?_)
        refine y_if_ne cx d_X12_light_66 69 rfl 72 (by decide) rfl h (fun h => ?_) (fun h => ?_)
        · refine z_iload_n cx d_X12_light_72 73 rfl rfl 5 rfl ?_
          refine y_iconst cx d_X12_light_73 74 rfl ?_
          refine z_iload cx d_X12_light_74 76 rfl 1 rfl ?_
          refine y_ishl cx d_X12_light_76 77 rfl ?_
          refine y_ior cx d_X12_light_77 78 rfl ?_
          refine y_istore_n_b cx d_X12_light_78 79 rfl rfl (by decide) (fun y => [(3, .int (zI y)), (5, .int (zI v5_13)), (6, .int (zI u_12)), (0, .ref (g.2.2 0)), (1, .int (zI a1)), (2, .int (zI a2)), (4, .int (zI v4_7))]) (fun y => rfl) h (fun v3_15 h => ?_)
          refine z_iload cx d_X12_light_79 81 rfl 6 rfl ?_
          refine z_aload_n cx d_X12_light_81 82 rfl rfl 3 rfl ?_
          refine z_get cx d_X12_light_82 85 rfl e_M rfl zX12 12 (by decide) q_1373 rfl rfl ?_
          refine y_bipush cx d_X12_light_85 87 rfl (by decide) ?_
          refine z_iload cx d_X12_light_87 89 rfl 2 rfl ?_
          refine y_iadd cx d_X12_light_89 90 rfl ?_
          refine y_ialdx cx d_X12_light_90 91 rfl e_M_now (by decide) h (fun x_16 h => ?_)
          refine y_iadd cx d_X12_light_91 92 rfl ?_
          refine y_istore_b cx d_X12_light_92 94 rfl (by decide) (fun y => [(4, .int (zI y)), (3, .int (zI v3_15)), (5, .int (zI v5_13)), (6, .int (zI u_12)), (0, .ref (g.2.2 0)), (1, .int (zI a1)), (2, .int (zI a2))]) (fun y => rfl) h (fun v4_17 h => ?_)
          refine z_goto cx d_X12_light_94 34 (by decide) ?_
          refine z_sub [4, 5, 6, 1, 0, 2] rfl ?_
          exact hrec_9 _ _ _ h
        · refine z_goto cx d_X12_light_69 34 (by decide) ?_
          refine z_sub [2, 3, 4, 5, 6, 0] rfl ?_
          exact hrec_9 _ _ _ h
    · refine z_sub [] rfl ?_
      exact hk_3  h
set_option maxHeartbeats 4000000 in
theorem tM_draw {l : Launch} {g : ZG} {M : ZB} {a1 : Int} {r : Int × ZB} (h : fM_draw M a1 = some r) : zMi l yX12_draw cX12_draw 2 (some .int) zr0 g [.ref (g.2.2 0), .int (zI a1)] (wM g M) (wM g r.2) (zI r.1) := by
  unfold fM_draw at h
  refine zMi_q (own := RX12) rfl (by decide +kernel) (Nat.le_of_ble_eq_true rfl) (lv := [(0, .ref (g.2.2 0)), (1, .int (zI a1))]) rfl ⟨rfl, rfl⟩ ?_
  intro p e s m args below meth c A Q hQ cx
  refine z_aload_n cx d_X12_draw_0 1 rfl rfl 0 rfl ?_
  refine z_aload_n cx d_X12_draw_1 2 rfl rfl 0 rfl ?_
  refine z_get cx d_X12_draw_2 5 rfl e_M rfl zX12 41 (by decide) q_1402 rfl rfl ?_
  refine y_ldc_w cx 1103515245 d_X12_draw_5 8 rfl q_1929 ?_
  refine y_imul cx d_X12_draw_8 9 rfl ?_
  refine y_sipush cx d_X12_draw_9 12 rfl (by decide) ?_
  refine y_iadd cx d_X12_draw_12 13 rfl ?_
  refine y_put cx d_X12_draw_13 16 rfl e_M rfl zX12 tyX12_ok nmX12 41 (by decide) q_1402 rfl rfl rfl rfl (Nat.le_of_ble_eq_true rfl) h (fun _ h9 => s_M_41 h9) (fun M_1 h => ?_)
  refine z_aload_n cx d_X12_draw_16 17 rfl rfl 0 rfl ?_
  refine z_get cx d_X12_draw_17 20 rfl e_M rfl zX12 41 (by decide) q_1402 rfl rfl ?_
  refine y_bipush cx d_X12_draw_20 22 rfl (by decide) ?_
  refine y_iushr cx d_X12_draw_22 23 rfl ?_
  refine z_iload_n cx d_X12_draw_23 24 rfl rfl 1 rfl ?_
  refine y_irem cx d_X12_draw_24 25 rfl h (fun h => ?_)
  subst hQ
  obtain rfl := Option.some.inj h
  exact z_iret cx d_X12_draw_25 rfl rfl
def zrM_drawsOne : Room := { frames := 6, cells := 0, slots := 0, locals := 139 }
set_option maxHeartbeats 4000000 in
theorem tM_drawsOne {l : Launch} {g : ZG} {M : ZB}  {r : Int × ZB} (h : fM_drawsOne M = some r) : zMi l yX12_drawsOne cX12_drawsOne 4 (some .boolean) zrM_drawsOne g [.ref (g.2.2 0)] (wM g M) (wM g r.2) (zI r.1) := by
  unfold fM_drawsOne at h
  refine zMi_q (own := RX12) rfl (by decide +kernel) (Nat.le_of_ble_eq_true rfl) (lv := [(0, .ref (g.2.2 0))]) rfl ⟨rfl, rfl⟩ ?_
  intro p e s m args below meth c A Q hQ cx
  refine z_aload_n cx d_X12_drawsOne_0 1 rfl rfl 0 rfl ?_
  refine y_bipush cx d_X12_drawsOne_1 3 rfl (by decide) ?_
  refine y_callV_i (As := [.int (zI 6)]) (rest := []) (W := fun u_1 => wM g u_1.2) (rf := fun u_1 => zI u_1.1) (rm := zr0) cx (fun _ hq => tM_draw hq) d_X12_drawsOne_3 6 rfl kk_X12_draw q_1925 q_1927 q_110 rfl e_M rfl ⟨rfl, rfl⟩ ⟨Nat.le_of_ble_eq_true rfl, Nat.le_of_ble_eq_true rfl⟩ rfl rfl (Nat.le_of_ble_eq_true rfl) ⟨Nat.zero_le _, Nat.zero_le _⟩ h (fun u_1 h => ?_)
  refine y_istore_n cx d_X12_drawsOne_6 7 rfl rfl (by decide) (lv' := [(1, .int (zI u_1.1)), (0, .ref (g.2.2 0))]) rfl ?_
  refine z_aload_n cx d_X12_drawsOne_7 8 rfl rfl 1 rfl ?_
  refine z_aload_n cx d_X12_drawsOne_8 9 rfl rfl 1 rfl ?_
  refine y_callV_i (As := []) (rest := [.ref (g.2.2 0)]) (W := fun u_2 => wM g u_1.2) (rf := fun u_2 => zI u_2) (rm := zr0) cx (fun _ hq => tM_lines hq) d_X12_drawsOne_9 12 rfl kk_X12_lines q_1582 q_1584 q_63 rfl e_M rfl ⟨rfl, rfl⟩ ⟨Nat.le_of_ble_eq_true rfl, Nat.le_of_ble_eq_true rfl⟩ rfl rfl (Nat.le_of_ble_eq_true rfl) ⟨Nat.zero_le _, Nat.zero_le _⟩ h (fun u_2 h => ?_)
  refine y_callV_i (As := [.int (zI u_2)]) (rest := []) (W := fun u_3 => wM g u_3.2) (rf := fun u_3 => zI u_3.1) (rm := zr0) cx (fun _ hq => tM_draw hq) d_X12_drawsOne_12 15 rfl kk_X12_draw q_1925 q_1927 q_110 rfl e_M rfl ⟨rfl, rfl⟩ ⟨Nat.le_of_ble_eq_true rfl, Nat.le_of_ble_eq_true rfl⟩ rfl rfl (Nat.le_of_ble_eq_true rfl) ⟨Nat.zero_le _, Nat.zero_le _⟩ h (fun u_3 h => ?_)
  refine y_istore_n cx d_X12_drawsOne_15 16 rfl rfl (by decide) (lv' := [(2, .int (zI u_3.1)), (1, .int (zI u_1.1)), (0, .ref (g.2.2 0))]) rfl ?_
  refine z_iload_n cx d_X12_drawsOne_16 17 rfl rfl 1 rfl ?_
  refine ite_c h (fun c_4 h => ?_) (fun c_4 h => ?_)
  · refine y_swIn cx d_X12_drawsOne_17 0 (Eq.trans rfl c_4) 52 (by decide) (by decide) rfl (by decide) ?_
    refine z_aload_n cx d_X12_drawsOne_52 53 rfl rfl 2 rfl ?_
    refine z_iload_n cx d_X12_drawsOne_53 54 rfl rfl 0 rfl ?_
    refine y_callV_i (As := [.int (zI u_3.1)]) (rest := []) (W := fun u_5 => wM g u_5.2) (rf := fun u_5 => zI u_5.1) (rm := zrM_places) cx (fun _ hq => tM_places hq) d_X12_drawsOne_54 57 rfl kk_X12_places q_1720 q_1722 q_85 rfl e_M rfl ⟨rfl, rfl⟩ ⟨Nat.le_of_ble_eq_true rfl, Nat.le_of_ble_eq_true rfl⟩ rfl rfl (Nat.le_of_ble_eq_true rfl) ⟨Nat.zero_le _, Nat.zero_le _⟩ h (fun u_5 h => ?_)
    obtain ⟨hz, h⟩ := zo_i h
    subst hQ
    obtain rfl := Option.some.inj h
    exact z_zret cx d_X12_drawsOne_57 (zb01 hz) rfl rfl
  · refine ite_c h (fun c_6 h => ?_) (fun c_6 h => ?_)
    · refine y_swIn cx d_X12_drawsOne_17 1 (Eq.trans rfl c_6) 52 (by decide) (by decide) rfl (by decide) ?_
      refine z_aload_n cx d_X12_drawsOne_52 53 rfl rfl 2 rfl ?_
      refine z_iload_n cx d_X12_drawsOne_53 54 rfl rfl 0 rfl ?_
      refine y_callV_i (As := [.int (zI u_3.1)]) (rest := []) (W := fun u_7 => wM g u_7.2) (rf := fun u_7 => zI u_7.1) (rm := zrM_places) cx (fun _ hq => tM_places hq) d_X12_drawsOne_54 57 rfl kk_X12_places q_1720 q_1722 q_85 rfl e_M rfl ⟨rfl, rfl⟩ ⟨Nat.le_of_ble_eq_true rfl, Nat.le_of_ble_eq_true rfl⟩ rfl rfl (Nat.le_of_ble_eq_true rfl) ⟨Nat.zero_le _, Nat.zero_le _⟩ h (fun u_7 h => ?_)
      obtain ⟨hz, h⟩ := zo_i h
      subst hQ
      obtain rfl := Option.some.inj h
      exact z_zret cx d_X12_drawsOne_57 (zb01 hz) rfl rfl
    · refine ite_c h (fun c_8 h => ?_) (fun c_8 h => ?_)
      · refine y_swIn cx d_X12_drawsOne_17 2 (Eq.trans rfl c_8) 58 (by decide) (by decide) rfl (by decide) ?_
        refine z_aload_n cx d_X12_drawsOne_58 59 rfl rfl 2 rfl ?_
        refine z_iload_n cx d_X12_drawsOne_59 60 rfl rfl 0 rfl ?_
        refine y_callV_i (As := [.int (zI u_3.1)]) (rest := []) (W := fun u_9 => wM g u_3.2) (rf := fun u_9 => zI u_9) (rm := zr0) cx (fun _ hq => tM_lies hq) d_X12_drawsOne_60 63 rfl kk_X12_lies q_1586 q_1588 q_64 rfl e_M rfl ⟨rfl, rfl⟩ ⟨Nat.le_of_ble_eq_true rfl, Nat.le_of_ble_eq_true rfl⟩ rfl rfl (Nat.le_of_ble_eq_true rfl) ⟨Nat.zero_le _, Nat.zero_le _⟩ h (fun u_9 h => ?_)
        refine y_iconst cx d_X12_drawsOne_63 64 rfl ?_
        refine kf1_f (P := fun (w0_10 : Int) => V p l e zrM_drawsOne s m args below meth c A s.heap g 4 Q (wM g u_3.2) 0 0 [(0, .ref (g.2.2 0)), (2, .int (zI u_3.1))] 72 [.int (zI w0_10)]) h (fun w0_10 h => ?_) (fun k_11 hk_11 h => ?_)
        · refine y_istore_n cx d_X12_drawsOne_72 73 rfl rfl (by decide) (lv' := [(3, .int (zI w0_10)), (0, .ref (g.2.2 0)), (2, .int (zI u_3.1))]) rfl ?_
          refine z_aload_n cx d_X12_drawsOne_73 74 rfl rfl 1 rfl ?_
          refine z_get cx d_X12_drawsOne_74 77 rfl e_M rfl zX12 12 (by decide) q_1373 rfl rfl ?_
          refine y_bipush cx d_X12_drawsOne_77 79 rfl (by decide) ?_
          refine z_iload_n cx d_X12_drawsOne_79 80 rfl rfl 2 rfl ?_
          refine y_iadd cx d_X12_drawsOne_80 81 rfl ?_
          refine y_iconst cx d_X12_drawsOne_81 82 rfl ?_
          refine y_iast cx d_X12_drawsOne_82 83 rfl e_M_now (by decide) h (fun _ h9 => s_M_now h9) (fun M_12 h => ?_)
          refine z_iload_n cx d_X12_drawsOne_83 84 rfl rfl 0 rfl ?_
          obtain ⟨hz, h⟩ := zo_i h
          subst hQ
          obtain rfl := Option.some.inj h
          exact z_zret cx d_X12_drawsOne_84 (zb01 hz) rfl rfl
        refine y_icmp_eq cx d_X12_drawsOne_64 67 rfl 71 (by decide) rfl (nm_eq (x := (-1)) (by decide) (by decide)) h (fun h => ?_) (fun h => ?_)
        · refine y_iconst cx d_X12_drawsOne_71 72 rfl ?_
          refine z_sub [2, 0] rfl ?_
          exact hk_11 _ h
        · refine y_iconst cx d_X12_drawsOne_67 68 rfl ?_
          refine z_goto cx d_X12_drawsOne_68 72 (by decide) ?_
          refine z_sub [2, 0] rfl ?_
          exact hk_11 _ h
      · refine ite_c h (fun c_13 h => ?_) (fun c_13 h => ?_)
        · refine y_swIn cx d_X12_drawsOne_17 3 (Eq.trans rfl c_13) 85 (by decide) (by decide) rfl (by decide) ?_
          refine z_aload_n cx d_X12_drawsOne_85 86 rfl rfl 2 rfl ?_
          refine z_iload_n cx d_X12_drawsOne_86 87 rfl rfl 0 rfl ?_
          refine y_callV_v (As := [.int (zI u_3.1)]) (rest := []) (W := fun u_14 => wM g u_14) (rm := zr0) cx (fun _ hq => tM_flips hq) d_X12_drawsOne_87 90 rfl kk_X12_flips q_1748 q_1750 q_90 rfl e_M rfl ⟨rfl, rfl⟩ ⟨Nat.le_of_ble_eq_true rfl, Nat.le_of_ble_eq_true rfl⟩ rfl rfl (Nat.le_of_ble_eq_true rfl) ⟨Nat.zero_le _, Nat.zero_le _⟩ h (fun u_14 h => ?_)
          refine y_iconst cx d_X12_drawsOne_90 91 rfl ?_
          subst hQ
          obtain rfl := Option.some.inj h
          exact z_zret cx d_X12_drawsOne_91 (zb01 (by decide)) rfl rfl
        · refine ite_c h (fun c_15 h => ?_) (fun c_15 h => ?_)
          · refine y_swIn cx d_X12_drawsOne_17 4 (Eq.trans rfl c_15) 92 (by decide) (by decide) rfl (by decide) ?_
            refine z_aload_n cx d_X12_drawsOne_92 93 rfl rfl 2 rfl ?_
            refine z_aload_n cx d_X12_drawsOne_93 94 rfl rfl 2 rfl ?_
            refine y_callV_i (As := []) (rest := [.ref (g.2.2 0)]) (W := fun u_16 => wM g u_3.2) (rf := fun u_16 => zI u_16) (rm := zr0) cx (fun _ hq => tM_many hq) d_X12_drawsOne_94 97 rfl kk_X12_many q_1574 q_1576 q_61 rfl e_M rfl ⟨rfl, rfl⟩ ⟨Nat.le_of_ble_eq_true rfl, Nat.le_of_ble_eq_true rfl⟩ rfl rfl (Nat.le_of_ble_eq_true rfl) ⟨Nat.zero_le _, Nat.zero_le _⟩ h (fun u_16 h => ?_)
            refine y_callV_i (As := [.int (zI u_16)]) (rest := []) (W := fun u_17 => wM g u_17.2) (rf := fun u_17 => zI u_17.1) (rm := zr0) cx (fun _ hq => tM_draw hq) d_X12_drawsOne_97 100 rfl kk_X12_draw q_1925 q_1927 q_110 rfl e_M rfl ⟨rfl, rfl⟩ ⟨Nat.le_of_ble_eq_true rfl, Nat.le_of_ble_eq_true rfl⟩ rfl rfl (Nat.le_of_ble_eq_true rfl) ⟨Nat.zero_le _, Nat.zero_le _⟩ h (fun u_17 h => ?_)
            refine y_istore_n cx d_X12_drawsOne_100 101 rfl rfl (by decide) (lv' := [(3, .int (zI u_17.1)), (2, .int (zI u_3.1)), (1, .int (zI u_1.1)), (0, .ref (g.2.2 0))]) rfl ?_
            refine z_aload_n cx d_X12_drawsOne_101 102 rfl rfl 3 rfl ?_
            refine z_iload_n cx d_X12_drawsOne_102 103 rfl rfl 1 rfl ?_
            refine z_iload_n cx d_X12_drawsOne_103 104 rfl rfl 0 rfl ?_
            refine y_callV_i (As := [.int (zI u_3.1), .int (zI u_17.1)]) (rest := []) (W := fun u_18 => wM g u_17.2) (rf := fun u_18 => zI u_18) (rm := zrM_whyNotPut) cx (fun _ hq => tM_whyNotPut hq) d_X12_drawsOne_104 107 rfl kk_X12_whyNotPut q_1660 q_1662 q_76 rfl e_M rfl ⟨rfl, rfl⟩ ⟨Nat.le_of_ble_eq_true rfl, Nat.le_of_ble_eq_true rfl⟩ rfl rfl (Nat.le_of_ble_eq_true rfl) ⟨Nat.zero_le _, Nat.zero_le _⟩ h (fun u_18 h => ?_)
            refine y_if_eq cx d_X12_drawsOne_107 110 rfl 112 (by decide) rfl h (fun h => ?_) (fun h => ?_)
            · refine z_aload_n cx d_X12_drawsOne_112 113 rfl rfl 3 rfl ?_
              refine z_get cx d_X12_drawsOne_113 116 rfl e_M rfl zX12 12 (by decide) q_1373 rfl rfl ?_
              refine y_bipush cx d_X12_drawsOne_116 118 rfl (by decide) ?_
              refine z_iload_n cx d_X12_drawsOne_118 119 rfl rfl 1 rfl ?_
              refine y_iadd cx d_X12_drawsOne_119 120 rfl ?_
              refine z_iload_n cx d_X12_drawsOne_120 121 rfl rfl 0 rfl ?_
              refine y_iast cx d_X12_drawsOne_121 122 rfl e_M_now (by decide) h (fun _ h9 => s_M_now h9) (fun M_19 h => ?_)
              refine y_iconst cx d_X12_drawsOne_122 123 rfl ?_
              subst hQ
              obtain rfl := Option.some.inj h
              exact z_zret cx d_X12_drawsOne_123 (zb01 (by decide)) rfl rfl
            · refine y_iconst cx d_X12_drawsOne_110 111 rfl ?_
              subst hQ
              obtain rfl := Option.some.inj h
              exact z_zret cx d_X12_drawsOne_111 (zb01 (by decide)) rfl rfl
          · refine y_swOut cx d_X12_drawsOne_17 (by omega) 124 (by decide) ?_
            refine z_aload_n cx d_X12_drawsOne_124 125 rfl rfl 2 rfl ?_
            refine z_iload_n cx d_X12_drawsOne_125 126 rfl rfl 0 rfl ?_
            refine z_aload_n cx d_X12_drawsOne_126 127 rfl rfl 2 rfl ?_
            refine z_aload_n cx d_X12_drawsOne_127 128 rfl rfl 2 rfl ?_
            refine y_callV_i (As := []) (rest := [.ref (g.2.2 0), .int (zI u_3.1), .ref (g.2.2 0)]) (W := fun u_20 => wM g u_3.2) (rf := fun u_20 => zI u_20) (rm := zr0) cx (fun _ hq => tM_many hq) d_X12_drawsOne_128 131 rfl kk_X12_many q_1574 q_1576 q_61 rfl e_M rfl ⟨rfl, rfl⟩ ⟨Nat.le_of_ble_eq_true rfl, Nat.le_of_ble_eq_true rfl⟩ rfl rfl (Nat.le_of_ble_eq_true rfl) ⟨Nat.zero_le _, Nat.zero_le _⟩ h (fun u_20 h => ?_)
            refine y_callV_i (As := [.int (zI u_20)]) (rest := [.int (zI u_3.1), .ref (g.2.2 0)]) (W := fun u_21 => wM g u_21.2) (rf := fun u_21 => zI u_21.1) (rm := zr0) cx (fun _ hq => tM_draw hq) d_X12_drawsOne_131 134 rfl kk_X12_draw q_1925 q_1927 q_110 rfl e_M rfl ⟨rfl, rfl⟩ ⟨Nat.le_of_ble_eq_true rfl, Nat.le_of_ble_eq_true rfl⟩ rfl rfl (Nat.le_of_ble_eq_true rfl) ⟨Nat.zero_le _, Nat.zero_le _⟩ h (fun u_21 h => ?_)
            refine y_callV_i (As := [.int (zI u_3.1), .int (zI u_21.1)]) (rest := []) (W := fun u_22 => wM g u_21.2) (rf := fun u_22 => zI u_22) (rm := zrM_tradeOf) cx (fun _ hq => tM_tradeOf hq) d_X12_drawsOne_134 137 rfl kk_X12_tradeOf q_1732 q_1734 q_87 rfl e_M rfl ⟨rfl, rfl⟩ ⟨Nat.le_of_ble_eq_true rfl, Nat.le_of_ble_eq_true rfl⟩ rfl rfl (Nat.le_of_ble_eq_true rfl) ⟨Nat.zero_le _, Nat.zero_le _⟩ h (fun u_22 h => ?_)
            refine y_istore_n cx d_X12_drawsOne_137 138 rfl rfl (by decide) (lv' := [(3, .int (zI u_22)), (2, .int (zI u_3.1)), (1, .int (zI u_1.1)), (0, .ref (g.2.2 0))]) rfl ?_
            refine z_iload_n cx d_X12_drawsOne_138 139 rfl rfl 0 rfl ?_
            refine y_iconst cx d_X12_drawsOne_139 140 rfl ?_
            refine y_icmp_ne cx d_X12_drawsOne_140 143 rfl 145 (by decide) rfl (nm_eq (x := (-1)) (by decide) (by decide)) h (fun h => ?_) (fun h => ?_)
            · refine z_aload_n cx d_X12_drawsOne_145 146 rfl rfl 3 rfl ?_
              refine z_iload_n cx d_X12_drawsOne_146 147 rfl rfl 1 rfl ?_
              refine z_iload_n cx d_X12_drawsOne_147 148 rfl rfl 0 rfl ?_
              refine y_callV_v (As := [.int (zI u_3.1), .int (zI u_22)]) (rest := []) (W := fun u_23 => wM g u_23) (rm := zrM_trades) cx (fun _ hq => tM_trades hq) d_X12_drawsOne_148 151 rfl kk_X12_trades q_1736 q_1738 q_88 rfl e_M rfl ⟨rfl, rfl⟩ ⟨Nat.le_of_ble_eq_true rfl, Nat.le_of_ble_eq_true rfl⟩ rfl rfl (Nat.le_of_ble_eq_true rfl) ⟨Nat.zero_le _, Nat.zero_le _⟩ h (fun u_23 h => ?_)
              refine y_iconst cx d_X12_drawsOne_151 152 rfl ?_
              subst hQ
              obtain rfl := Option.some.inj h
              exact z_zret cx d_X12_drawsOne_152 (zb01 (by decide)) rfl rfl
            · refine y_iconst cx d_X12_drawsOne_143 144 rfl ?_
              subst hQ
              obtain rfl := Option.some.inj h
              exact z_zret cx d_X12_drawsOne_144 (zb01 (by decide)) rfl rfl
def zrM_drawn : Room := { frames := 7, cells := 0, slots := 0, locals := 162 }
set_option maxHeartbeats 4000000 in
theorem tM_drawn {l : Launch} {g : ZG} {M : ZB} {a1 : Int} {a2 : Int} {r : Int × ZB} (h : fM_drawn M a1 a2 = some r) : zMi l yX12_drawn cX12_drawn 5 (some .int) zrM_drawn g [.ref (g.2.2 0), .int (zI a1), .int (zI a2)] (wM g M) (wM g r.2) (zI r.1) := by
  unfold fM_drawn at h
  refine zMi_q (own := RX12) rfl (by decide +kernel) (Nat.le_of_ble_eq_true rfl) (lv := [(0, .ref (g.2.2 0)), (1, .int (zI a1)), (2, .int (zI a2))]) rfl ⟨rfl, rfl⟩ ?_
  intro p e s m args below meth c A Q hQ cx
  refine z_aload_n cx d_X12_drawn_0 1 rfl rfl 0 rfl ?_
  refine y_iconst cx d_X12_drawn_1 2 rfl ?_
  refine y_put cx d_X12_drawn_2 5 rfl e_M rfl zX12 tyX12_ok nmX12 0 (by decide) q_1361 rfl rfl rfl rfl (Nat.le_of_ble_eq_true rfl) h (fun _ h9 => s_M_0 h9) (fun M_1 h => ?_)
  refine z_iload_n cx d_X12_drawn_5 6 rfl rfl 1 rfl ?_
  refine y_iconst cx d_X12_drawn_6 7 rfl ?_
  refine y_bipush cx d_X12_drawn_7 9 rfl (by decide) ?_
  refine y_callS_i (As := [.int (zI a1), .int (zI 1), .int (zI 60)]) (rest := []) (W := fun u_2 => wM g M_1) (rf := fun u_2 => zI u_2) (rm := zr0) cx (fun _ hq => tM_isIn hq) d_X12_drawn_9 12 rfl kk_X12_isIn q_1552 q_1553 ⟨rfl, rfl⟩ ⟨Nat.le_of_ble_eq_true rfl, Nat.le_of_ble_eq_true rfl⟩ rfl rfl (Nat.le_of_ble_eq_true rfl) ⟨Nat.zero_le _, Nat.zero_le _⟩ h (fun u_2 h => ?_)
  refine y_if_ne cx d_X12_drawn_12 15 rfl 17 (by decide) rfl h (fun h => ?_) (fun h => ?_)
  · refine z_aload_n cx d_X12_drawn_17 18 rfl rfl 0 rfl ?_
    refine z_get cx d_X12_drawn_18 21 rfl e_M rfl zX12 12 (by decide) q_1373 rfl rfl ?_
    refine y_iconst cx d_X12_drawn_21 22 rfl ?_
    refine z_aload_n cx d_X12_drawn_22 23 rfl rfl 0 rfl ?_
    refine z_get cx d_X12_drawn_23 26 rfl e_M rfl zX12 16 (by decide) q_1377 rfl rfl ?_
    refine y_iconst cx d_X12_drawn_26 27 rfl ?_
    refine y_callS_v (As := [.ref (g.2.2 2), .int (zI 0), .ref (g.2.2 6), .int (zI 0)]) (rest := []) (W := fun u_3 => wM g u_3) (rm := zr0) cx (fun _ hq => tM_copy_now_before hq) d_X12_drawn_27 30 rfl kk_X12_copy q_1563 q_1564 ⟨rfl, rfl⟩ ⟨Nat.le_of_ble_eq_true rfl, Nat.le_of_ble_eq_true rfl⟩ rfl rfl (Nat.le_of_ble_eq_true rfl) ⟨Nat.zero_le _, Nat.zero_le _⟩ h (fun u_3 h => ?_)
    refine z_aload_n cx d_X12_drawn_30 31 rfl rfl 0 rfl ?_
    refine z_iload_n cx d_X12_drawn_31 32 rfl rfl 2 rfl ?_
    refine y_put cx d_X12_drawn_32 35 rfl e_M rfl zX12 tyX12_ok nmX12 41 (by decide) q_1402 rfl rfl rfl rfl (Nat.le_of_ble_eq_true rfl) h (fun _ h9 => s_M_41 h9) (fun M_4 h => ?_)
    refine y_iconst cx d_X12_drawn_35 36 rfl ?_
    refine y_istore_n cx d_X12_drawn_36 37 rfl rfl (by decide) (lv' := [(3, .int (zI 0)), (0, .ref (g.2.2 0)), (1, .int (zI a1)), (2, .int (zI a2))]) rfl ?_
    refine y_iconst cx d_X12_drawn_37 38 rfl ?_
    refine y_istore cx d_X12_drawn_38 40 rfl (by decide) (lv' := [(4, .int (zI 0)), (3, .int (zI 0)), (0, .ref (g.2.2 0)), (1, .int (zI a1)), (2, .int (zI a2))]) rfl ?_
    refine z_sub [2, 3, 1, 0] rfl ?_
    refine lop3_f (P := fun (v3_5 : Int) (v4_6 : Int) (M_7 : ZB) => V p l e zrM_drawn s m args below meth c A s.heap g 5 Q (wM g M_7) 0 0 [(0, .ref (g.2.2 0)), (1, .int (zI a1)), (3, .int (zI v3_5)), (4, .int (zI v4_6))] 40 []) (fun rec_8 hrec_8 v3_5 v4_6 M_7 h => ?_) _ _ _ _ h
    refine z_iload cx d_X12_drawn_40 42 rfl 3 rfl ?_
    refine z_iload_n cx d_X12_drawn_42 43 rfl rfl 1 rfl ?_
    refine kf0_f (P := V p l e zrM_drawn s m args below meth c A s.heap g 5 Q (wM g M_7) 0 0 [(0, .ref (g.2.2 0)), (3, .int (zI v3_5))] 69 []) h (fun h => ?_) (fun k_9 hk_9 h => ?_)
    · refine z_iload_n cx d_X12_drawn_69 70 rfl rfl 1 rfl ?_
      refine kf1_f (P := fun (M_10 : ZB) => V p l e zrM_drawn s m args below meth c A s.heap g 5 Q (wM g M_10) 0 0 [(3, .int (zI v3_5))] 77 []) h (fun M_10 h => ?_) (fun k_11 hk_11 h => ?_)
      · refine z_iload_n cx d_X12_drawn_77 78 rfl rfl 0 rfl ?_
        subst hQ
        obtain rfl := Option.some.inj h
        exact z_iret cx d_X12_drawn_78 rfl rfl
      refine y_if_le cx d_X12_drawn_70 73 rfl 77 (by decide) rfl h (fun h => ?_) (fun h => ?_)
      · refine z_sub [1] rfl ?_
        exact hk_11 _ h
      · refine z_aload_n cx d_X12_drawn_73 74 rfl rfl 0 rfl ?_
        refine y_callV_v (As := []) (rest := []) (W := fun u_12 => wM g u_12) (rm := zrM_stay) cx (fun _ hq => tM_stay hq) d_X12_drawn_74 77 rfl kk_X12_stay q_1724 q_1726 q_86 rfl e_M rfl ⟨rfl, rfl⟩ ⟨Nat.le_of_ble_eq_true rfl, Nat.le_of_ble_eq_true rfl⟩ rfl rfl (Nat.le_of_ble_eq_true rfl) ⟨Nat.zero_le _, Nat.zero_le _⟩ h (fun u_12 h => ?_)
        refine z_sub [1] rfl ?_
        exact hk_11 _ h
    refine y_icmp_ge cx d_X12_drawn_43 46 rfl 69 (by decide) rfl rfl h (fun h => ?_) (fun h => ?_)
    · refine z_sub [0, 2] rfl ?_
      exact hk_9  h
    · refine z_aload_n cx d_X12_drawn_46 47 rfl rfl 0 rfl ?_
      refine y_callV_i (As := []) (rest := []) (W := fun u_13 => wM g M_7) (rf := fun u_13 => zI u_13) (rm := zr0) cx (fun _ hq => tM_lines hq) d_X12_drawn_47 50 rfl kk_X12_lines q_1582 q_1584 q_63 rfl e_M rfl ⟨rfl, rfl⟩ ⟨Nat.le_of_ble_eq_true rfl, Nat.le_of_ble_eq_true rfl⟩ rfl rfl (Nat.le_of_ble_eq_true rfl) ⟨Nat.zero_le _, Nat.zero_le _⟩ h (fun u_13 h => ?_)
      refine y_if_le cx d_X12_drawn_50 53 rfl 69 (by decide) rfl h (fun h => ?_) (fun h => ?_)
      · refine z_sub [0, 2] rfl ?_
        exact hk_9  h
      · refine z_aload_n cx d_X12_drawn_53 54 rfl rfl 0 rfl ?_
        refine y_callV_i (As := []) (rest := []) (W := fun u_14 => wM g u_14.2) (rf := fun u_14 => zI u_14.1) (rm := zrM_drawsOne) cx (fun _ hq => tM_drawsOne hq) d_X12_drawn_54 57 rfl kk_X12_drawsOne q_1921 q_1923 q_109 rfl e_M rfl ⟨rfl, rfl⟩ ⟨Nat.le_of_ble_eq_true rfl, Nat.le_of_ble_eq_true rfl⟩ rfl rfl (Nat.le_of_ble_eq_true rfl) ⟨Nat.zero_le _, Nat.zero_le _⟩ h (fun u_14 h => ?_)
        refine kf1_f (P := fun (v3_15 : Int) => V p l e zrM_drawn s m args below meth c A s.heap g 5 Q (wM g u_14.2) 0 0 [(0, .ref (g.2.2 0)), (1, .int (zI a1)), (3, .int (zI v3_15)), (4, .int (zI v4_6))] 63 []) h (fun v3_15 h => ?_) (fun k_16 hk_16 h => ?_)
        · refine y_iinc cx 3 d_X12_drawn_63 66 rfl rfl (by decide) (lv' := [(4, .int (zI (v4_6 + 1))), (0, .ref (g.2.2 0)), (1, .int (zI a1)), (3, .int (zI v3_15))]) rfl ?_
          refine z_goto cx d_X12_drawn_66 40 (by decide) ?_
          refine z_sub [1, 2, 3, 0] rfl ?_
          exact hrec_8 _ _ _ h
        refine y_if_eq cx d_X12_drawn_57 60 rfl 63 (by decide) rfl h (fun h => ?_) (fun h => ?_)
        · exact hk_16 _ h
        · refine y_iinc cx 2 d_X12_drawn_60 63 rfl rfl (by decide) (lv' := [(3, .int (zI (v3_5 + 1))), (0, .ref (g.2.2 0)), (1, .int (zI a1)), (4, .int (zI v4_6))]) rfl ?_
          refine z_sub [1, 2, 0, 3] rfl ?_
          exact hk_16 _ h
  · refine y_iconst cx d_X12_drawn_15 16 rfl ?_
    subst hQ
    obtain rfl := Option.some.inj h
    exact z_iret cx d_X12_drawn_16 rfl rfl
set_option maxHeartbeats 4000000 in
theorem tM_copy_now_kept {l : Launch} {g : ZG} {M : ZB} {a2 : Int} {a4 : Int} {r : ZB} (h : fM_copy_now_kept M a2 a4 = some r) : zMv l yX12_copy cX12_copy 5 none zr0 g [.ref (g.2.2 2), .int (zI a2), .ref (g.2.2 4), .int (zI a4)] (wM g M) (wM g r) := by
  unfold fM_copy_now_kept at h
  refine zMv_q (own := RX12) rfl (by decide +kernel) (Nat.le_of_ble_eq_true rfl) (lv := [(0, .ref (g.2.2 2)), (1, .int (zI a2)), (2, .ref (g.2.2 4)), (3, .int (zI a4))]) rfl ⟨rfl, rfl⟩ ?_
  intro p e s m args below meth c A Q hQ cx
  refine y_iconst cx d_X12_copy_0 1 rfl ?_
  refine y_istore cx d_X12_copy_1 3 rfl (by decide) (lv' := [(4, .int (zI 0)), (0, .ref (g.2.2 2)), (1, .int (zI a2)), (2, .ref (g.2.2 4)), (3, .int (zI a4))]) rfl ?_
  refine z_sub [1, 2, 3, 4, 0] rfl ?_
  refine lop2_f (P := fun (v4_1 : Int) (M_2 : ZB) => V p l e zr0 s m args below meth c A s.heap g 5 Q (wM g M_2) 0 0 [(0, .ref (g.2.2 2)), (1, .int (zI a2)), (2, .ref (g.2.2 4)), (3, .int (zI a4)), (4, .int (zI v4_1))] 3 []) (fun rec_3 hrec_3 v4_1 M_2 h => ?_) _ _ _ h
  refine z_iload cx d_X12_copy_3 5 rfl 4 rfl ?_
  refine y_sipush cx d_X12_copy_5 8 rfl (by decide) ?_
  refine y_icmp_ge cx d_X12_copy_8 11 rfl 29 (by decide) rfl (nm_eq (x := 147) (by decide) (by decide)) h (fun h => ?_) (fun h => ?_)
  · subst hQ
    obtain rfl := Option.some.inj h
    exact z_vret cx d_X12_copy_29 rfl
  · refine z_aload_n cx d_X12_copy_11 12 rfl rfl 2 rfl ?_
    refine z_iload_n cx d_X12_copy_12 13 rfl rfl 3 rfl ?_
    refine z_iload cx d_X12_copy_13 15 rfl 4 rfl ?_
    refine y_iadd cx d_X12_copy_15 16 rfl ?_
    refine z_aload_n cx d_X12_copy_16 17 rfl rfl 0 rfl ?_
    refine z_iload_n cx d_X12_copy_17 18 rfl rfl 1 rfl ?_
    refine z_iload cx d_X12_copy_18 20 rfl 4 rfl ?_
    refine y_iadd cx d_X12_copy_20 21 rfl ?_
    refine y_ialdx cx d_X12_copy_21 22 rfl e_M_now (by decide) h (fun x_4 h => ?_)
    refine y_iast cx d_X12_copy_22 23 rfl e_M_kept (by decide) h (fun _ h9 => s_M_kept h9) (fun M_5 h => ?_)
    refine y_iinc cx 4 d_X12_copy_23 26 rfl rfl (by decide) (lv' := [(4, .int (zI (v4_1 + 1))), (0, .ref (g.2.2 2)), (1, .int (zI a2)), (2, .ref (g.2.2 4)), (3, .int (zI a4))]) rfl ?_
    refine z_goto cx d_X12_copy_26 3 (by decide) ?_
    refine z_sub [1, 2, 3, 4, 0] rfl ?_
    exact hrec_3 _ _ h
def zrM_image : Room := { frames := 1, cells := 0, slots := 0, locals := 24 }
set_option maxHeartbeats 4000000 in
theorem tM_image {l : Launch} {g : ZG} {M : ZB} {a1 : Int} {r : Int × ZB} (h : fM_image M a1 = some r) : zMi l yX12_image cX12_image 2 (some .boolean) zrM_image g [.ref (g.2.2 0), .int (zI a1)] (wM g M) (wM g r.2) (zI r.1) := by
  unfold fM_image at h
  refine zMi_q (own := RX12) rfl (by decide +kernel) (Nat.le_of_ble_eq_true rfl) (lv := [(0, .ref (g.2.2 0)), (1, .int (zI a1))]) rfl ⟨rfl, rfl⟩ ?_
  intro p e s m args below meth c A Q hQ cx
  refine z_aload_n cx d_X12_image_0 1 rfl rfl 0 rfl ?_
  refine y_iconst cx d_X12_image_1 2 rfl ?_
  refine y_put cx d_X12_image_2 5 rfl e_M rfl zX12 tyX12_ok nmX12 0 (by decide) q_1361 rfl rfl rfl rfl (Nat.le_of_ble_eq_true rfl) h (fun _ h9 => s_M_0 h9) (fun M_1 h => ?_)
  refine z_iload_n cx d_X12_image_5 6 rfl rfl 1 rfl ?_
  refine y_iconst cx d_X12_image_6 7 rfl ?_
  refine y_iconst cx d_X12_image_7 8 rfl ?_
  refine y_callS_i (As := [.int (zI a1), .int (zI 0), .int (zI 1)]) (rest := []) (W := fun u_2 => wM g M_1) (rf := fun u_2 => zI u_2) (rm := zr0) cx (fun _ hq => tM_isIn hq) d_X12_image_8 11 rfl kk_X12_isIn q_1552 q_1553 ⟨rfl, rfl⟩ ⟨Nat.le_of_ble_eq_true rfl, Nat.le_of_ble_eq_true rfl⟩ rfl rfl (Nat.le_of_ble_eq_true rfl) ⟨Nat.zero_le _, Nat.zero_le _⟩ h (fun u_2 h => ?_)
  refine y_if_ne cx d_X12_image_11 14 rfl 16 (by decide) rfl h (fun h => ?_) (fun h => ?_)
  · refine z_aload_n cx d_X12_image_16 17 rfl rfl 0 rfl ?_
    refine z_get cx d_X12_image_17 20 rfl e_M rfl zX12 12 (by decide) q_1373 rfl rfl ?_
    refine y_iconst cx d_X12_image_20 21 rfl ?_
    refine z_aload_n cx d_X12_image_21 22 rfl rfl 0 rfl ?_
    refine z_get cx d_X12_image_22 25 rfl e_M rfl zX12 14 (by decide) q_1375 rfl rfl ?_
    refine y_sipush cx d_X12_image_25 28 rfl (by decide) ?_
    refine z_iload_n cx d_X12_image_28 29 rfl rfl 1 rfl ?_
    refine y_imul cx d_X12_image_29 30 rfl ?_
    refine y_callS_v (As := [.ref (g.2.2 2), .int (zI 0), .ref (g.2.2 4), .int (zI (147 * a1))]) (rest := []) (W := fun u_3 => wM g u_3) (rm := zr0) cx (fun _ hq => tM_copy_now_kept hq) d_X12_image_30 33 rfl kk_X12_copy q_1563 q_1564 ⟨rfl, rfl⟩ ⟨Nat.le_of_ble_eq_true rfl, Nat.le_of_ble_eq_true rfl⟩ rfl rfl (Nat.le_of_ble_eq_true rfl) ⟨Nat.zero_le _, Nat.zero_le _⟩ h (fun u_3 h => ?_)
    refine z_aload_n cx d_X12_image_33 34 rfl rfl 0 rfl ?_
    refine z_get cx d_X12_image_34 37 rfl e_M rfl zX12 19 (by decide) q_1380 rfl rfl ?_
    refine z_iload_n cx d_X12_image_37 38 rfl rfl 1 rfl ?_
    refine y_iconst cx d_X12_image_38 39 rfl ?_
    refine y_zast cx d_X12_image_39 40 rfl e_M_isKept (by decide) (by decide) h (fun _ h9 => s_M_isKept h9) (fun M_4 h => ?_)
    refine y_iconst cx d_X12_image_40 41 rfl ?_
    subst hQ
    obtain rfl := Option.some.inj h
    exact z_zret cx d_X12_image_41 (zb01 (by decide)) rfl rfl
  · refine y_iconst cx d_X12_image_14 15 rfl ?_
    subst hQ
    obtain rfl := Option.some.inj h
    exact z_zret cx d_X12_image_15 (zb01 (by decide)) rfl rfl
set_option maxHeartbeats 4000000 in
theorem tM_copy_kept_now {l : Launch} {g : ZG} {M : ZB} {a2 : Int} {a4 : Int} {r : ZB} (h : fM_copy_kept_now M a2 a4 = some r) : zMv l yX12_copy cX12_copy 5 none zr0 g [.ref (g.2.2 4), .int (zI a2), .ref (g.2.2 2), .int (zI a4)] (wM g M) (wM g r) := by
  unfold fM_copy_kept_now at h
  refine zMv_q (own := RX12) rfl (by decide +kernel) (Nat.le_of_ble_eq_true rfl) (lv := [(0, .ref (g.2.2 4)), (1, .int (zI a2)), (2, .ref (g.2.2 2)), (3, .int (zI a4))]) rfl ⟨rfl, rfl⟩ ?_
  intro p e s m args below meth c A Q hQ cx
  refine y_iconst cx d_X12_copy_0 1 rfl ?_
  refine y_istore cx d_X12_copy_1 3 rfl (by decide) (lv' := [(4, .int (zI 0)), (0, .ref (g.2.2 4)), (1, .int (zI a2)), (2, .ref (g.2.2 2)), (3, .int (zI a4))]) rfl ?_
  refine z_sub [1, 2, 3, 4, 0] rfl ?_
  refine lop2_f (P := fun (v4_1 : Int) (M_2 : ZB) => V p l e zr0 s m args below meth c A s.heap g 5 Q (wM g M_2) 0 0 [(0, .ref (g.2.2 4)), (1, .int (zI a2)), (2, .ref (g.2.2 2)), (3, .int (zI a4)), (4, .int (zI v4_1))] 3 []) (fun rec_3 hrec_3 v4_1 M_2 h => ?_) _ _ _ h
  refine z_iload cx d_X12_copy_3 5 rfl 4 rfl ?_
  refine y_sipush cx d_X12_copy_5 8 rfl (by decide) ?_
  refine y_icmp_ge cx d_X12_copy_8 11 rfl 29 (by decide) rfl (nm_eq (x := 147) (by decide) (by decide)) h (fun h => ?_) (fun h => ?_)
  · subst hQ
    obtain rfl := Option.some.inj h
    exact z_vret cx d_X12_copy_29 rfl
  · refine z_aload_n cx d_X12_copy_11 12 rfl rfl 2 rfl ?_
    refine z_iload_n cx d_X12_copy_12 13 rfl rfl 3 rfl ?_
    refine z_iload cx d_X12_copy_13 15 rfl 4 rfl ?_
    refine y_iadd cx d_X12_copy_15 16 rfl ?_
    refine z_aload_n cx d_X12_copy_16 17 rfl rfl 0 rfl ?_
    refine z_iload_n cx d_X12_copy_17 18 rfl rfl 1 rfl ?_
    refine z_iload cx d_X12_copy_18 20 rfl 4 rfl ?_
    refine y_iadd cx d_X12_copy_20 21 rfl ?_
    refine y_ialdx cx d_X12_copy_21 22 rfl e_M_kept (by decide) h (fun x_4 h => ?_)
    refine y_iast cx d_X12_copy_22 23 rfl e_M_now (by decide) h (fun _ h9 => s_M_now h9) (fun M_5 h => ?_)
    refine y_iinc cx 4 d_X12_copy_23 26 rfl rfl (by decide) (lv' := [(4, .int (zI (v4_1 + 1))), (0, .ref (g.2.2 4)), (1, .int (zI a2)), (2, .ref (g.2.2 2)), (3, .int (zI a4))]) rfl ?_
    refine z_goto cx d_X12_copy_26 3 (by decide) ?_
    refine z_sub [1, 2, 3, 4, 0] rfl ?_
    exact hrec_3 _ _ h
def zrM_restore : Room := { frames := 1, cells := 0, slots := 0, locals := 24 }
set_option maxHeartbeats 4000000 in
theorem tM_restore {l : Launch} {g : ZG} {M : ZB} {a1 : Int} {r : Int × ZB} (h : fM_restore M a1 = some r) : zMi l yX12_restore cX12_restore 2 (some .boolean) zrM_restore g [.ref (g.2.2 0), .int (zI a1)] (wM g M) (wM g r.2) (zI r.1) := by
  unfold fM_restore at h
  refine zMi_q (own := RX12) rfl (by decide +kernel) (Nat.le_of_ble_eq_true rfl) (lv := [(0, .ref (g.2.2 0)), (1, .int (zI a1))]) rfl ⟨rfl, rfl⟩ ?_
  intro p e s m args below meth c A Q hQ cx
  refine z_aload_n cx d_X12_restore_0 1 rfl rfl 0 rfl ?_
  refine y_iconst cx d_X12_restore_1 2 rfl ?_
  refine y_put cx d_X12_restore_2 5 rfl e_M rfl zX12 tyX12_ok nmX12 0 (by decide) q_1361 rfl rfl rfl rfl (Nat.le_of_ble_eq_true rfl) h (fun _ h9 => s_M_0 h9) (fun M_1 h => ?_)
  refine z_iload_n cx d_X12_restore_5 6 rfl rfl 1 rfl ?_
  refine y_iconst cx d_X12_restore_6 7 rfl ?_
  refine y_iconst cx d_X12_restore_7 8 rfl ?_
  refine y_callS_i (As := [.int (zI a1), .int (zI 0), .int (zI 1)]) (rest := []) (W := fun u_2 => wM g M_1) (rf := fun u_2 => zI u_2) (rm := zr0) cx (fun _ hq => tM_isIn hq) d_X12_restore_8 11 rfl kk_X12_isIn q_1552 q_1553 ⟨rfl, rfl⟩ ⟨Nat.le_of_ble_eq_true rfl, Nat.le_of_ble_eq_true rfl⟩ rfl rfl (Nat.le_of_ble_eq_true rfl) ⟨Nat.zero_le _, Nat.zero_le _⟩ h (fun u_2 h => ?_)
  refine kf0_f (P := V p l e zrM_restore s m args below meth c A s.heap g 2 Q (wM g M_1) 0 0 [] 23 []) h (fun h => ?_) (fun k_3 hk_3 h => ?_)
  · refine y_iconst cx d_X12_restore_23 24 rfl ?_
    subst hQ
    obtain rfl := Option.some.inj h
    exact z_zret cx d_X12_restore_24 (zb01 (by decide)) rfl rfl
  refine y_if_eq cx d_X12_restore_11 14 rfl 23 (by decide) rfl h (fun h => ?_) (fun h => ?_)
  · refine z_sub [] rfl ?_
    exact hk_3  h
  · refine z_aload_n cx d_X12_restore_14 15 rfl rfl 0 rfl ?_
    refine z_get cx d_X12_restore_15 18 rfl e_M rfl zX12 19 (by decide) q_1380 rfl rfl ?_
    refine z_iload_n cx d_X12_restore_18 19 rfl rfl 1 rfl ?_
    refine y_zaldx cx d_X12_restore_19 20 rfl e_M_isKept (by decide) h (fun x_4 h => ?_)
    refine y_if_ne cx d_X12_restore_20 23 rfl 25 (by decide) rfl h (fun h => ?_) (fun h => ?_)
    · refine z_aload_n cx d_X12_restore_25 26 rfl rfl 0 rfl ?_
      refine z_get cx d_X12_restore_26 29 rfl e_M rfl zX12 14 (by decide) q_1375 rfl rfl ?_
      refine y_sipush cx d_X12_restore_29 32 rfl (by decide) ?_
      refine z_iload_n cx d_X12_restore_32 33 rfl rfl 1 rfl ?_
      refine y_imul cx d_X12_restore_33 34 rfl ?_
      refine z_aload_n cx d_X12_restore_34 35 rfl rfl 0 rfl ?_
      refine z_get cx d_X12_restore_35 38 rfl e_M rfl zX12 12 (by decide) q_1373 rfl rfl ?_
      refine y_iconst cx d_X12_restore_38 39 rfl ?_
      refine y_callS_v (As := [.ref (g.2.2 4), .int (zI (147 * a1)), .ref (g.2.2 2), .int (zI 0)]) (rest := []) (W := fun u_5 => wM g u_5) (rm := zr0) cx (fun _ hq => tM_copy_kept_now hq) d_X12_restore_39 42 rfl kk_X12_copy q_1563 q_1564 ⟨rfl, rfl⟩ ⟨Nat.le_of_ble_eq_true rfl, Nat.le_of_ble_eq_true rfl⟩ rfl rfl (Nat.le_of_ble_eq_true rfl) ⟨Nat.zero_le _, Nat.zero_le _⟩ h (fun u_5 h => ?_)
      refine z_aload_n cx d_X12_restore_42 43 rfl rfl 0 rfl ?_
      refine y_iconst cx d_X12_restore_43 44 rfl ?_
      refine y_put cx d_X12_restore_44 47 rfl e_M rfl zX12 tyX12_ok nmX12 20 (by decide) q_1381 rfl rfl rfl rfl (Nat.le_of_ble_eq_true rfl) h (fun _ h9 => s_M_20 h9) (fun M_6 h => ?_)
      refine y_iconst cx d_X12_restore_47 48 rfl ?_
      subst hQ
      obtain rfl := Option.some.inj h
      exact z_zret cx d_X12_restore_48 (zb01 (by decide)) rfl rfl
    · refine z_sub [] rfl ?_
      exact hk_3  h
