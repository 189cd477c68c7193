-- needs: 18.xzlaw
set_option maxHeartbeats 80000000 in
theorem tL_law {p : Program} {l : Launch} {e : Env} {s : State} {m : MethodId} {args : Array Value} {below : List Frame} {meth : Method} {c : Code} {A : Nat → Prop} {g : ZG} {ret : Option FieldType} {Q : State → Prop} {ks : ZS} {b L nc ns : Nat} {xs : Nat → Int32} {X : ZB} {N : ZB} {T : ZB} {Rd : ZB} {Fr : ZB} {Ac : ZA} {Ch : ZB} {PS : ZB} {Ly : ZB} {Pa : ZQ} {OT : ZB} {Ea : ZB} {Ga : ZB} {Im0 : ZO} {Im1 : ZO} {La : ZB} (cx : zC p s m args meth c code "ForestPacksLaw" 12 A s.heap g ret) (hE : zE ks A s) (hl9 : l.stackTraces = false) (hX : va_X b L xs s s.heap) (hbl : b < s.heap.size) (hbA : ¬ A b) (hL : L ≤ 3072) (hnc : nc + 1 ≤ room_1.cells) (hns : ns + 6 ≤ room_1.slots) (done : ∀ (w : va_W) (nc ns : Nat) (lv : List (Nat × Value)), nc ≤ room_1.cells → ns ≤ room_1.slots → V p l e room_1 s m args below meth c A s.heap g 12 Q w nc ns lv 508 [.int (zI 1)]) {r : Unit} (h : fL_law N T Rd Fr Ac Ch PS Pa La L xs = some r) : V p l e room_1 s m args below meth c A s.heap g 12 Q (wX g X N T Rd Fr Ac Ch PS Ly Pa OT Ea Ga Im0 Im1 La) nc ns [(0, .ref b), (1, .ref (g.2.2 0)), (2, .ref (g.2.2 91)), (3, .ref (g.2.2 92)), (4, .ref (g.2.2 93))] 38 [] := by
  unfold fL_law at h
  refine z_aload_n cx d_L_law_38 39 rfl rfl 1 rfl ?_
  refine z_aload_n cx d_L_law_39 40 rfl rfl 2 rfl ?_
  refine z_aload_n cx d_L_law_40 41 rfl rfl 3 rfl ?_
  refine z_aload cx d_L_law_41 43 rfl 4 rfl ?_
  refine y_bipush cx d_L_law_43 45 rfl (by decide) ?_
  refine y_callSe (As := [.ref (g.2.2 0), .ref (g.2.2 91), .ref (g.2.2 92), .ref (g.2.2 93), .int (zI 7)]) (rest := []) (W := fun u_1 => wX g X u_1.2.1 u_1.2.2.1 u_1.2.2.2.1 u_1.2.2.2.2.1 u_1.2.2.2.2.2.1 Ch PS Ly Pa OT Ea Ga Im0 Im1 u_1.2.2.2.2.2.2) (rf := fun u_1 => zI u_1.1) (rm := zrL_tells) cx hE (fun _ hq => tL_tells hq hl9) d_L_law_45 48 rfl kk_L_tells q_686 q_687 ⟨rfl, rfl⟩ ⟨Nat.le_of_ble_eq_true rfl, Nat.le_of_ble_eq_true rfl⟩ rfl rfl (Nat.le_of_ble_eq_true rfl) ⟨hnc, hns⟩ h (fun u_1 h => ?_)
  refine kf2_f (P := fun (PS_2 : ZB) (Pa_3 : ZQ) => V p l e room_1 s m args below meth c A s.heap g 12 Q (wX g X u_1.2.1 u_1.2.2.1 u_1.2.2.2.1 u_1.2.2.2.2.1 u_1.2.2.2.2.2.1 Ch PS_2 Ly Pa_3 OT Ea Ga Im0 Im1 u_1.2.2.2.2.2.2) (nc + 1) (ns + 6) [] 59 []) h (fun PS_2 Pa_3 h => ?_) (fun k_4 hk_4 h => ?_)
  · refine y_iconst cx d_L_law_59 60 rfl ?_
    exact nomatch h
  refine y_if_eq cx d_L_law_48 51 rfl 59 (by decide) rfl h (fun h => ?_) (fun h => ?_)
  · refine z_sub [] rfl ?_
    exact hk_4 _ _ h
  · refine z_aload_n cx d_L_law_51 52 rfl rfl 1 rfl ?_
    refine z_aload_n cx d_L_law_52 53 rfl rfl 3 rfl ?_
    refine y_callS_i (As := [.ref (g.2.2 0), .ref (g.2.2 92)]) (rest := []) (W := fun u_5 => wX g X u_1.2.1 u_1.2.2.1 u_1.2.2.2.1 u_1.2.2.2.2.1 u_1.2.2.2.2.2.1 Ch u_5.2.1 Ly u_5.2.2 OT Ea Ga Im0 Im1 u_1.2.2.2.2.2.2) (rf := fun u_5 => zI u_5.1) (rm := zrL_agree) cx (fun _ hq => tL_agree hq) d_L_law_53 56 rfl kk_L_agree q_921 q_922 ⟨rfl, rfl⟩ ⟨Nat.le_of_ble_eq_true rfl, Nat.le_of_ble_eq_true rfl⟩ rfl rfl (Nat.le_of_ble_eq_true rfl) ⟨hnc, hns⟩ h (fun u_5 h => ?_)
    refine y_if_ne cx d_L_law_56 59 rfl 61 (by decide) rfl h (fun h => ?_) (fun h => ?_)
    · refine y_iconst cx d_L_law_61 62 rfl ?_
      refine y_istore cx d_L_law_62 64 rfl (by decide) (lv' := [(5, .int (zI 1)), (0, .ref b), (1, .ref (g.2.2 0)), (2, .ref (g.2.2 91)), (3, .ref (g.2.2 92)), (4, .ref (g.2.2 93))]) rfl ?_
      refine z_sub [1, 2, 4, 0] rfl ?_
      refine lop5_f (P := fun (v5_6 : Int) (N_7 : ZB) (Ac_8 : ZA) (Ch_9 : ZB) (PS_10 : ZB) => V p l e room_1 s m args below meth c A s.heap g 12 Q (wX g X N_7 u_1.2.2.1 u_1.2.2.2.1 u_1.2.2.2.2.1 Ac_8 Ch_9 PS_10 Ly u_5.2.2 OT Ea Ga Im0 Im1 u_1.2.2.2.2.2.2) (nc + 1) (ns + 6) [(0, .ref b), (1, .ref (g.2.2 0)), (3, .ref (g.2.2 92)), (5, .int (zI v5_6))] 64 []) (fun rec_11 hrec_11 v5_6 N_7 Ac_8 Ch_9 PS_10 h => ?_) _ _ _ _ _ _ h
      refine z_iload cx d_L_law_64 66 rfl 3 rfl ?_
      refine z_aload_n cx d_L_law_66 67 rfl rfl 0 rfl ?_
      refine z_slen cx hX hbl hbA d_L_law_67 68 rfl ?_
      refine kf0_f (P := V p l e room_1 s m args below meth c A s.heap g 12 Q (wX g X N_7 u_1.2.2.1 u_1.2.2.2.1 u_1.2.2.2.2.1 Ac_8 Ch_9 PS_10 Ly u_5.2.2 OT Ea Ga Im0 Im1 u_1.2.2.2.2.2.2) (nc + 1) (ns + 6) [(1, .ref (g.2.2 0)), (3, .ref (g.2.2 92))] 487 []) h (fun h => ?_) (fun k_12 hk_12 h => ?_)
      · refine z_aload_n cx d_L_law_487 488 rfl rfl 0 rfl ?_
        refine z_aload_n cx d_L_law_488 489 rfl rfl 1 rfl ?_
        refine y_callS_i (As := [.ref (g.2.2 0), .ref (g.2.2 92)]) (rest := []) (W := fun u_13 => wX g X N_7 u_1.2.2.1 u_1.2.2.2.1 u_1.2.2.2.2.1 Ac_8 Ch_9 PS_10 Ly u_5.2.2 OT Ea Ga Im0 Im1 u_1.2.2.2.2.2.2) (rf := fun u_13 => zI u_13) (rm := zrL_lying) cx (fun _ hq => tL_lying hq) d_L_law_489 492 rfl kk_L_lying q_879 q_880 ⟨rfl, rfl⟩ ⟨Nat.le_of_ble_eq_true rfl, Nat.le_of_ble_eq_true rfl⟩ rfl rfl (Nat.le_of_ble_eq_true rfl) ⟨hnc, hns⟩ h (fun u_13 h => ?_)
        refine kf3_f (P := fun (w0_14 : Int) (PS_15 : ZB) (Pa_16 : ZQ) => V p l e room_1 s m args below meth c A s.heap g 12 Q (wX g X N_7 u_1.2.2.1 u_1.2.2.2.1 u_1.2.2.2.2.1 Ac_8 Ch_9 PS_15 Ly Pa_16 OT Ea Ga Im0 Im1 u_1.2.2.2.2.2.2) (nc + 1) (ns + 6) [] 508 [.int (zI w0_14)]) h (fun w0_14 PS_15 Pa_16 h => ?_) (fun k_17 hk_17 h => ?_)
        · obtain ⟨h1, -⟩ := ite_s h
          rw [h1]
          exact done _ _ _ _ hnc hns
        refine kf2_f (P := fun (PS_18 : ZB) (Pa_19 : ZQ) => V p l e room_1 s m args below meth c A s.heap g 12 Q (wX g X N_7 u_1.2.2.1 u_1.2.2.2.1 u_1.2.2.2.2.1 Ac_8 Ch_9 PS_18 Ly Pa_19 OT Ea Ga Im0 Im1 u_1.2.2.2.2.2.2) (nc + 1) (ns + 6) [] 507 []) h (fun PS_18 Pa_19 h => ?_) (fun k_20 hk_20 h => ?_)
        · refine y_iconst cx d_L_law_507 508 rfl ?_
          exact hk_17 _ _ _ h
        refine y_if_lt cx d_L_law_492 495 rfl 507 (by decide) rfl h (fun h => ?_) (fun h => ?_)
        · refine z_sub [] rfl ?_
          exact hk_20 _ _ h
        · refine z_aload_n cx d_L_law_495 496 rfl rfl 0 rfl ?_
          refine z_aload_n cx d_L_law_496 497 rfl rfl 1 rfl ?_
          refine y_callS_i (As := [.ref (g.2.2 0), .ref (g.2.2 92)]) (rest := []) (W := fun u_21 => wX g X N_7 u_1.2.2.1 u_1.2.2.2.1 u_1.2.2.2.2.1 Ac_8 Ch_9 u_21.2.1 Ly u_21.2.2 OT Ea Ga Im0 Im1 u_1.2.2.2.2.2.2) (rf := fun u_21 => zI u_21.1) (rm := zrL_agree) cx (fun _ hq => tL_agree hq) d_L_law_497 500 rfl kk_L_agree q_921 q_922 ⟨rfl, rfl⟩ ⟨Nat.le_of_ble_eq_true rfl, Nat.le_of_ble_eq_true rfl⟩ rfl rfl (Nat.le_of_ble_eq_true rfl) ⟨hnc, hns⟩ h (fun u_21 h => ?_)
          refine y_if_eq cx d_L_law_500 503 rfl 507 (by decide) rfl h (fun h => ?_) (fun h => ?_)
          · refine z_sub [] rfl ?_
            exact hk_20 _ _ h
          · refine y_iconst cx d_L_law_503 504 rfl ?_
            refine z_goto cx d_L_law_504 508 (by decide) ?_
            refine z_sub [] rfl ?_
            exact hk_17 _ _ _ h
      refine y_icmp_ge cx d_L_law_68 71 rfl 487 (by decide) rfl rfl h (fun h => ?_) (fun h => ?_)
      · refine z_sub [1, 2] rfl ?_
        exact hk_12  h
      · refine z_iload cx d_L_law_71 73 rfl 3 rfl ?_
        refine y_bipush cx d_L_law_73 75 rfl (by decide) ?_
        refine y_icmp_ge cx d_L_law_75 78 rfl 487 (by decide) rfl (nm_eq (x := 30) (by decide) (by decide)) h (fun h => ?_) (fun h => ?_)
        · refine z_sub [1, 2] rfl ?_
          exact hk_12  h
        · refine z_aload_n cx d_L_law_78 79 rfl rfl 2 rfl ?_
          refine y_iconst cx d_L_law_79 80 rfl ?_
          refine y_ialdx cx d_L_law_80 81 rfl e_La_v (by decide) h (fun x_22 h => ?_)
          refine y_if_le cx d_L_law_81 84 rfl 487 (by decide) rfl h (fun h => ?_) (fun h => ?_)
          · refine z_sub [1, 2] rfl ?_
            exact hk_12  h
          · refine z_aload_n cx d_L_law_84 85 rfl rfl 0 rfl ?_
            refine z_iload cx d_L_law_85 87 rfl 3 rfl ?_
            refine z_sldx cx hX hbl hbA hL d_L_law_87 88 rfl h (fun hi_23 h => ?_)
            refine y_ldc cx 2147483647 d_L_law_88 90 rfl q_1022 ?_
            refine y_iand cx d_L_law_90 91 rfl ?_
            refine y_istore_b cx d_L_law_91 93 rfl (by decide) (fun y => [(6, .int (zI y)), (0, .ref b), (1, .ref (g.2.2 0)), (3, .ref (g.2.2 92)), (5, .int (zI v5_6))]) (fun y => rfl) h (fun v6_24 h => ?_)
            refine z_iload cx d_L_law_93 95 rfl 0 rfl ?_
            refine y_iconst cx d_L_law_95 96 rfl ?_
            refine y_ishr cx d_L_law_96 97 rfl ?_
            refine z_aload_n cx d_L_law_97 98 rfl rfl 3 rfl ?_
            refine y_iconst cx d_L_law_98 99 rfl ?_
            refine y_ialdx cx d_L_law_99 100 rfl e_La_v (by decide) h (fun x_25 h => ?_)
            refine y_irem cx d_L_law_100 101 rfl h (fun h => ?_)
            refine y_istore_b cx d_L_law_101 103 rfl (by decide) (fun y => [(7, .int (zI y)), (6, .int (zI v6_24)), (0, .ref b), (1, .ref (g.2.2 0)), (3, .ref (g.2.2 92)), (5, .int (zI v5_6))]) (fun y => rfl) h (fun v7_26 h => ?_)
            refine z_iload cx d_L_law_103 105 rfl 1 rfl ?_
            refine y_bipush cx d_L_law_105 107 rfl (by decide) ?_
            refine y_ishr cx d_L_law_107 108 rfl ?_
            refine z_aload_n cx d_L_law_108 109 rfl rfl 4 rfl ?_
            refine y_iconst cx d_L_law_109 110 rfl ?_
            refine y_ialdx cx d_L_law_110 111 rfl e_La_v (by decide) h (fun x_27 h => ?_)
            refine y_irem cx d_L_law_111 112 rfl h (fun h => ?_)
            refine y_istore_b cx d_L_law_112 114 rfl (by decide) (fun y => [(8, .int (zI y)), (7, .int (zI v7_26)), (6, .int (zI v6_24)), (0, .ref b), (1, .ref (g.2.2 0)), (3, .ref (g.2.2 92)), (5, .int (zI v5_6))]) (fun y => rfl) h (fun v8_28 h => ?_)
            refine z_aload_n cx d_L_law_114 115 rfl rfl 4 rfl ?_
            refine z_aload_n cx d_L_law_115 116 rfl rfl 5 rfl ?_
            refine y_callS_i (As := [.ref (g.2.2 0), .ref (g.2.2 92)]) (rest := []) (W := fun u_29 => wX g X N_7 u_1.2.2.1 u_1.2.2.2.1 u_1.2.2.2.2.1 Ac_8 Ch_9 PS_10 Ly u_5.2.2 OT Ea Ga Im0 Im1 u_1.2.2.2.2.2.2) (rf := fun u_29 => zI u_29) (rm := zrL_lying) cx (fun _ hq => tL_lying hq) d_L_law_116 119 rfl kk_L_lying q_879 q_880 ⟨rfl, rfl⟩ ⟨Nat.le_of_ble_eq_true rfl, Nat.le_of_ble_eq_true rfl⟩ rfl rfl (Nat.le_of_ble_eq_true rfl) ⟨hnc, hns⟩ h (fun u_29 h => ?_)
            refine y_istore cx d_L_law_119 121 rfl (by decide) (lv' := [(9, .int (zI u_29)), (8, .int (zI v8_28)), (7, .int (zI v7_26)), (6, .int (zI v6_24)), (0, .ref b), (1, .ref (g.2.2 0)), (3, .ref (g.2.2 92)), (5, .int (zI v5_6))]) rfl ?_
            refine z_iload cx d_L_law_121 123 rfl 3 rfl ?_
            refine y_bipush cx d_L_law_123 125 rfl (by decide) ?_
            refine y_iand cx d_L_law_125 126 rfl ?_
            refine kf4_f (P := fun (N_30 : ZB) (Ac_31 : ZA) (Ch_32 : ZB) (PS_33 : ZB) => V p l e room_1 s m args below meth c A s.heap g 12 Q (wX g X N_30 u_1.2.2.1 u_1.2.2.2.1 u_1.2.2.2.2.1 Ac_31 Ch_32 PS_33 Ly u_5.2.2 OT Ea Ga Im0 Im1 u_1.2.2.2.2.2.2) (nc + 1) (ns + 6) [(0, .ref b), (1, .ref (g.2.2 0)), (3, .ref (g.2.2 92)), (5, .int (zI v5_6))] 481 []) h (fun N_30 Ac_31 Ch_32 PS_33 h => ?_) (fun k_34 hk_34 h => ?_)
            · refine y_iinc cx 3 d_L_law_481 484 rfl rfl (by decide) (lv' := [(5, .int (zI (v5_6 + 1))), (0, .ref b), (1, .ref (g.2.2 0)), (3, .ref (g.2.2 92))]) rfl ?_
              refine z_goto cx d_L_law_484 64 (by decide) ?_
              refine z_sub [1, 2, 3, 0] rfl ?_
              exact hrec_11 _ _ _ _ _ h
            refine ite_c h (fun c_35 h => ?_) (fun c_35 h => ?_)
            · refine y_swIn cx d_L_law_126 0 (Eq.trans (nm_zand _ _) c_35) 168 (by decide) (by decide) rfl (by decide) ?_
              refine z_aload_n cx d_L_law_168 169 rfl rfl 5 rfl ?_
              refine z_aload_n cx d_L_law_169 170 rfl rfl 6 rfl ?_
              refine z_iload cx d_L_law_170 172 rfl 2 rfl ?_
              refine y_callS_i (As := [.ref (g.2.2 0), .ref (g.2.2 92), .int (zI v7_26)]) (rest := []) (W := fun u_36 => wX g X u_36.2.1 u_1.2.2.1 u_1.2.2.2.1 u_1.2.2.2.2.1 u_36.2.2.1 u_36.2.2.2 PS_10 Ly u_5.2.2 OT Ea Ga Im0 Im1 u_1.2.2.2.2.2.2) (rf := fun u_36 => zI u_36.1) (rm := zrL_placed) cx (fun _ hq => tL_placed hq) d_L_law_172 175 rfl kk_L_placed q_885 q_886 ⟨rfl, rfl⟩ ⟨Nat.le_of_ble_eq_true rfl, Nat.le_of_ble_eq_true rfl⟩ rfl rfl (Nat.le_of_ble_eq_true rfl) ⟨hnc, hns⟩ h (fun u_36 h => ?_)
              refine y_if_ne cx d_L_law_175 178 rfl 481 (by decide) rfl h (fun h => ?_) (fun h => ?_)
              · refine z_sub [4, 5, 6, 7] rfl ?_
                exact hk_34 _ _ _ _ h
              · refine y_iconst cx d_L_law_178 179 rfl ?_
                exact nomatch h
            · refine ite_c h (fun c_37 h => ?_) (fun c_37 h => ?_)
              · refine y_swIn cx d_L_law_126 1 (Eq.trans (nm_zand _ _) c_37) 168 (by decide) (by decide) rfl (by decide) ?_
                refine z_aload_n cx d_L_law_168 169 rfl rfl 5 rfl ?_
                refine z_aload_n cx d_L_law_169 170 rfl rfl 6 rfl ?_
                refine z_iload cx d_L_law_170 172 rfl 2 rfl ?_
                refine y_callS_i (As := [.ref (g.2.2 0), .ref (g.2.2 92), .int (zI v7_26)]) (rest := []) (W := fun u_38 => wX g X u_38.2.1 u_1.2.2.1 u_1.2.2.2.1 u_1.2.2.2.2.1 u_38.2.2.1 u_38.2.2.2 PS_10 Ly u_5.2.2 OT Ea Ga Im0 Im1 u_1.2.2.2.2.2.2) (rf := fun u_38 => zI u_38.1) (rm := zrL_placed) cx (fun _ hq => tL_placed hq) d_L_law_172 175 rfl kk_L_placed q_885 q_886 ⟨rfl, rfl⟩ ⟨Nat.le_of_ble_eq_true rfl, Nat.le_of_ble_eq_true rfl⟩ rfl rfl (Nat.le_of_ble_eq_true rfl) ⟨hnc, hns⟩ h (fun u_38 h => ?_)
                refine y_if_ne cx d_L_law_175 178 rfl 481 (by decide) rfl h (fun h => ?_) (fun h => ?_)
                · refine z_sub [4, 5, 6, 7] rfl ?_
                  exact hk_34 _ _ _ _ h
                · refine y_iconst cx d_L_law_178 179 rfl ?_
                  exact nomatch h
              · refine ite_c h (fun c_39 h => ?_) (fun c_39 h => ?_)
                · refine y_swIn cx d_L_law_126 2 (Eq.trans (nm_zand _ _) c_39) 168 (by decide) (by decide) rfl (by decide) ?_
                  refine z_aload_n cx d_L_law_168 169 rfl rfl 5 rfl ?_
                  refine z_aload_n cx d_L_law_169 170 rfl rfl 6 rfl ?_
                  refine z_iload cx d_L_law_170 172 rfl 2 rfl ?_
                  refine y_callS_i (As := [.ref (g.2.2 0), .ref (g.2.2 92), .int (zI v7_26)]) (rest := []) (W := fun u_40 => wX g X u_40.2.1 u_1.2.2.1 u_1.2.2.2.1 u_1.2.2.2.2.1 u_40.2.2.1 u_40.2.2.2 PS_10 Ly u_5.2.2 OT Ea Ga Im0 Im1 u_1.2.2.2.2.2.2) (rf := fun u_40 => zI u_40.1) (rm := zrL_placed) cx (fun _ hq => tL_placed hq) d_L_law_172 175 rfl kk_L_placed q_885 q_886 ⟨rfl, rfl⟩ ⟨Nat.le_of_ble_eq_true rfl, Nat.le_of_ble_eq_true rfl⟩ rfl rfl (Nat.le_of_ble_eq_true rfl) ⟨hnc, hns⟩ h (fun u_40 h => ?_)
                  refine y_if_ne cx d_L_law_175 178 rfl 481 (by decide) rfl h (fun h => ?_) (fun h => ?_)
                  · refine z_sub [4, 5, 6, 7] rfl ?_
                    exact hk_34 _ _ _ _ h
                  · refine y_iconst cx d_L_law_178 179 rfl ?_
                    exact nomatch h
                · refine ite_c h (fun c_41 h => ?_) (fun c_41 h => ?_)
                  · refine y_swIn cx d_L_law_126 3 (Eq.trans (nm_zand _ _) c_41) 180 (by decide) (by decide) rfl (by decide) ?_
                    refine z_aload_n cx d_L_law_180 181 rfl rfl 5 rfl ?_
                    refine y_iconst cx d_L_law_181 182 rfl ?_
                    refine z_iload cx d_L_law_182 184 rfl 2 rfl ?_
                    refine y_iconst cx d_L_law_184 185 rfl ?_
                    refine y_callSh (As := [.ref (g.2.2 0), .int (zI 0), .int (zI v7_26), .int (zI 3)]) (rest := []) (W := fun u_42 => wX g X N_7 u_1.2.2.1 u_1.2.2.2.1 u_1.2.2.2.2.1 Ac_8 Ch_9 PS_10 Ly u_5.2.2 OT Ea Ga Im0 Im1 u_1.2.2.2.2.2.2) (rf := fun u_42 => zI u_42) (rm := zrL_its) cx (fun _ hq => tL_its hq) d_L_law_185 188 rfl qh_its q_26 qh_itsy q_607 q_608 ⟨rfl, rfl⟩ ⟨Nat.le_of_ble_eq_true rfl, Nat.le_of_ble_eq_true rfl⟩ rfl rfl (Nat.le_of_ble_eq_true rfl) ⟨hnc, hns⟩ h (fun u_42 h => ?_)
                    refine y_istore cx d_L_law_188 190 rfl (by decide) (lv' := [(10, .int (zI u_42)), (9, .int (zI u_29)), (8, .int (zI v8_28)), (7, .int (zI v7_26)), (6, .int (zI v6_24)), (0, .ref b), (1, .ref (g.2.2 0)), (3, .ref (g.2.2 92)), (5, .int (zI v5_6))]) rfl ?_
                    refine z_aload_n cx d_L_law_190 191 rfl rfl 6 rfl ?_
                    refine z_iload cx d_L_law_191 193 rfl 3 rfl ?_
                    refine y_callV_i (As := [.int (zI v7_26)]) (rest := []) (W := fun u_43 => wX g X u_43.2.1 u_1.2.2.1 u_1.2.2.2.1 u_1.2.2.2.2.1 u_43.2.2 Ch_9 PS_10 Ly u_5.2.2 OT Ea Ga Im0 Im1 u_1.2.2.2.2.2.2) (rf := fun u_43 => zI u_43.1) (rm := zrX_lift) cx (fun _ hq => tX_lift hq) d_L_law_193 196 rfl kk_X11_lift q_522 q_523 q_524 rfl e_X rfl ⟨rfl, rfl⟩ ⟨Nat.le_of_ble_eq_true rfl, Nat.le_of_ble_eq_true rfl⟩ rfl rfl (Nat.le_of_ble_eq_true rfl) ⟨hnc, hns⟩ h (fun u_43 h => ?_)
                    refine z_iload cx d_L_law_196 198 rfl 0 rfl ?_
                    refine kf0_f (P := V p l e room_1 s m args below meth c A s.heap g 12 Q (wX g X u_43.2.1 u_1.2.2.1 u_1.2.2.2.1 u_1.2.2.2.2.1 u_43.2.2 Ch_9 PS_10 Ly u_5.2.2 OT Ea Ga Im0 Im1 u_1.2.2.2.2.2.2) (nc + 1) (ns + 6) [] 218 []) h (fun h => ?_) (fun k_44 hk_44 h => ?_)
                    · refine y_iconst cx d_L_law_218 219 rfl ?_
                      exact nomatch h
                    refine y_icmp_ne cx d_L_law_198 201 rfl 218 (by decide) rfl rfl h (fun h => ?_) (fun h => ?_)
                    · refine z_sub [] rfl ?_
                      exact hk_44  h
                    · refine z_aload_n cx d_L_law_201 202 rfl rfl 6 rfl ?_
                      refine z_aload_n cx d_L_law_202 203 rfl rfl 7 rfl ?_
                      refine y_callS_i (As := [.ref (g.2.2 0), .ref (g.2.2 92)]) (rest := []) (W := fun u_45 => wX g X u_43.2.1 u_1.2.2.1 u_1.2.2.2.1 u_1.2.2.2.2.1 u_43.2.2 Ch_9 PS_10 Ly u_5.2.2 OT Ea Ga Im0 Im1 u_1.2.2.2.2.2.2) (rf := fun u_45 => zI u_45) (rm := zrL_lying) cx (fun _ hq => tL_lying hq) d_L_law_203 206 rfl kk_L_lying q_879 q_880 ⟨rfl, rfl⟩ ⟨Nat.le_of_ble_eq_true rfl, Nat.le_of_ble_eq_true rfl⟩ rfl rfl (Nat.le_of_ble_eq_true rfl) ⟨hnc, hns⟩ h (fun u_45 h => ?_)
                      refine z_iload cx d_L_law_206 208 rfl 1 rfl ?_
                      refine y_iconst cx d_L_law_208 209 rfl ?_
                      refine z_iload cx d_L_law_209 211 rfl 3 rfl ?_
                      refine y_ishl cx d_L_law_211 212 rfl ?_
                      refine y_iconst cx d_L_law_212 213 rfl ?_
                      refine y_ixor cx d_L_law_213 214 rfl ?_
                      refine y_iand cx d_L_law_214 215 rfl ?_
                      refine y_icmp_eq cx d_L_law_215 218 rfl 481 (by decide) rfl (nm_zand _ _) h (fun h => ?_) (fun h => ?_)
                      · refine z_sub [5, 6, 7, 8] rfl ?_
                        exact hk_34 _ _ _ _ h
                      · refine z_sub [] rfl ?_
                        exact hk_44  h
                  · refine ite_c h (fun c_46 h => ?_) (fun c_46 h => ?_)
                    · refine y_swIn cx d_L_law_126 4 (Eq.trans (nm_zand _ _) c_46) 220 (by decide) (by decide) rfl (by decide) ?_
                      refine z_aload_n cx d_L_law_220 221 rfl rfl 5 rfl ?_
                      refine y_iconst cx d_L_law_221 222 rfl ?_
                      refine z_iload cx d_L_law_222 224 rfl 2 rfl ?_
                      refine y_iconst cx d_L_law_224 225 rfl ?_
                      refine y_callSh (As := [.ref (g.2.2 0), .int (zI 0), .int (zI v7_26), .int (zI 4)]) (rest := []) (W := fun u_47 => wX g X N_7 u_1.2.2.1 u_1.2.2.2.1 u_1.2.2.2.2.1 Ac_8 Ch_9 PS_10 Ly u_5.2.2 OT Ea Ga Im0 Im1 u_1.2.2.2.2.2.2) (rf := fun u_47 => zI u_47) (rm := zrL_its) cx (fun _ hq => tL_its hq) d_L_law_225 228 rfl qh_its q_26 qh_itsy q_607 q_608 ⟨rfl, rfl⟩ ⟨Nat.le_of_ble_eq_true rfl, Nat.le_of_ble_eq_true rfl⟩ rfl rfl (Nat.le_of_ble_eq_true rfl) ⟨hnc, hns⟩ h (fun u_47 h => ?_)
                      refine y_iconst cx d_L_law_228 229 rfl ?_
                      refine kf1_f (P := fun (w0_48 : Int) => V p l e room_1 s m args below meth c A s.heap g 12 Q (wX g X N_7 u_1.2.2.1 u_1.2.2.2.1 u_1.2.2.2.2.1 Ac_8 Ch_9 PS_10 Ly u_5.2.2 OT Ea Ga Im0 Im1 u_1.2.2.2.2.2.2) (nc + 1) (ns + 6) [(0, .ref b), (1, .ref (g.2.2 0)), (3, .ref (g.2.2 92)), (5, .int (zI v5_6)), (7, .int (zI v7_26)), (8, .int (zI v8_28)), (9, .int (zI u_29))] 273 [.int (zI w0_48)]) h (fun w0_48 h => ?_) (fun k_49 hk_49 h => ?_)
                      · refine y_istore cx d_L_law_273 275 rfl (by decide) (lv' := [(10, .int (zI w0_48)), (0, .ref b), (1, .ref (g.2.2 0)), (3, .ref (g.2.2 92)), (5, .int (zI v5_6)), (7, .int (zI v7_26)), (8, .int (zI v8_28)), (9, .int (zI u_29))]) rfl ?_
                        refine z_aload_n cx d_L_law_275 276 rfl rfl 2 rfl ?_
                        refine z_iload cx d_L_law_276 278 rfl 5 rfl ?_
                        refine z_iload cx d_L_law_278 280 rfl 6 rfl ?_
                        refine y_callV_i (As := [.int (zI v7_26), .int (zI v8_28)]) (rest := []) (W := fun u_50 => wX g X u_50.2.1 u_1.2.2.1 u_1.2.2.2.1 u_1.2.2.2.2.1 u_50.2.2.1 u_50.2.2.2 PS_10 Ly u_5.2.2 OT Ea Ga Im0 Im1 u_1.2.2.2.2.2.2) (rf := fun u_50 => zI u_50.1) (rm := zrX_put) cx (fun _ hq => tX_put hq) d_L_law_280 283 rfl kk_X11_put q_483 q_484 q_485 rfl e_X rfl ⟨rfl, rfl⟩ ⟨Nat.le_of_ble_eq_true rfl, Nat.le_of_ble_eq_true rfl⟩ rfl rfl (Nat.le_of_ble_eq_true rfl) ⟨hnc, hns⟩ h (fun u_50 h => ?_)
                        refine z_iload cx d_L_law_283 285 rfl 0 rfl ?_
                        refine kf0_f (P := V p l e room_1 s m args below meth c A s.heap g 12 Q (wX g X u_50.2.1 u_1.2.2.1 u_1.2.2.2.1 u_1.2.2.2.2.1 u_50.2.2.1 u_50.2.2.2 PS_10 Ly u_5.2.2 OT Ea Ga Im0 Im1 u_1.2.2.2.2.2.2) (nc + 1) (ns + 6) [] 313 []) h (fun h => ?_) (fun k_51 hk_51 h => ?_)
                        · refine y_iconst cx d_L_law_313 314 rfl ?_
                          exact nomatch h
                        refine y_icmp_ne cx d_L_law_285 288 rfl 313 (by decide) rfl rfl h (fun h => ?_) (fun h => ?_)
                        · refine z_sub [] rfl ?_
                          exact hk_51  h
                        · refine z_aload_n cx d_L_law_288 289 rfl rfl 2 rfl ?_
                          refine z_aload_n cx d_L_law_289 290 rfl rfl 3 rfl ?_
                          refine y_callS_i (As := [.ref (g.2.2 0), .ref (g.2.2 92)]) (rest := []) (W := fun u_52 => wX g X u_50.2.1 u_1.2.2.1 u_1.2.2.2.1 u_1.2.2.2.2.1 u_50.2.2.1 u_50.2.2.2 PS_10 Ly u_5.2.2 OT Ea Ga Im0 Im1 u_1.2.2.2.2.2.2) (rf := fun u_52 => zI u_52) (rm := zrL_lying) cx (fun _ hq => tL_lying hq) d_L_law_290 293 rfl kk_L_lying q_879 q_880 ⟨rfl, rfl⟩ ⟨Nat.le_of_ble_eq_true rfl, Nat.le_of_ble_eq_true rfl⟩ rfl rfl (Nat.le_of_ble_eq_true rfl) ⟨hnc, hns⟩ h (fun u_52 h => ?_)
                          refine z_iload cx d_L_law_293 295 rfl 0 rfl ?_
                          refine kf1_f (P := fun (w1_53 : Int) => V p l e room_1 s m args below meth c A s.heap g 12 Q (wX g X u_50.2.1 u_1.2.2.1 u_1.2.2.2.1 u_1.2.2.2.2.1 u_50.2.2.1 u_50.2.2.2 PS_10 Ly u_5.2.2 OT Ea Ga Im0 Im1 u_1.2.2.2.2.2.2) (nc + 1) (ns + 6) [(0, .ref b), (1, .ref (g.2.2 0)), (3, .ref (g.2.2 92)), (5, .int (zI v5_6))] 310 [.int (zI w1_53), .int (zI u_52)]) h (fun w1_53 h => ?_) (fun k_54 hk_54 h => ?_)
                          · refine y_icmp_eq cx d_L_law_310 313 rfl 481 (by decide) rfl rfl h (fun h => ?_) (fun h => ?_)
                            · exact hk_34 _ _ _ _ h
                            · refine z_sub [] rfl ?_
                              exact hk_51  h
                          refine y_if_ne cx d_L_law_295 298 rfl 308 (by decide) rfl h (fun h => ?_) (fun h => ?_)
                          · refine z_iload cx d_L_law_308 310 rfl 7 rfl ?_
                            refine z_sub [1, 2, 3, 4] rfl ?_
                            exact hk_54 _ h
                          · refine z_iload cx d_L_law_298 300 rfl 7 rfl ?_
                            refine y_iconst cx d_L_law_300 301 rfl ?_
                            refine z_iload cx d_L_law_301 303 rfl 5 rfl ?_
                            refine y_ishl cx d_L_law_303 304 rfl ?_
                            refine y_ior cx d_L_law_304 305 rfl ?_
                            refine z_goto cx d_L_law_305 310 (by decide) ?_
                            refine z_sub [1, 2, 3, 4] rfl ?_
                            exact hk_54 _ h
                      refine y_icmp_ne cx d_L_law_229 232 rfl 236 (by decide) rfl (nm_eq (x := 1) (by decide) (by decide)) h (fun h => ?_) (fun h => ?_)
                      · refine z_iload cx d_L_law_236 238 rfl 0 rfl ?_
                        refine z_iload cx d_L_law_238 240 rfl 2 rfl ?_
                        refine y_callS_i (As := [.int (zI u_29), .int (zI v7_26)]) (rest := []) (W := fun u_55 => wX g X N_7 u_1.2.2.1 u_1.2.2.2.1 u_1.2.2.2.2.1 Ac_8 Ch_9 PS_10 Ly u_5.2.2 OT Ea Ga Im0 Im1 u_1.2.2.2.2.2.2) (rf := fun u_55 => zI u_55) (rm := zr0) cx (fun _ hq => tL_has hq) d_L_law_240 243 rfl kk_L_has q_864 q_865 ⟨rfl, rfl⟩ ⟨Nat.le_of_ble_eq_true rfl, Nat.le_of_ble_eq_true rfl⟩ rfl rfl (Nat.le_of_ble_eq_true rfl) ⟨hnc, hns⟩ h (fun u_55 h => ?_)
                        refine y_if_eq cx d_L_law_243 246 rfl 250 (by decide) rfl h (fun h => ?_) (fun h => ?_)
                        · refine z_aload_n cx d_L_law_250 251 rfl rfl 6 rfl ?_
                          refine z_aload_n cx d_L_law_251 252 rfl rfl 5 rfl ?_
                          refine z_iload cx d_L_law_252 254 rfl 1 rfl ?_
                          refine y_callV_i (As := [.int (zI v8_28)]) (rest := [.ref (g.2.2 92)]) (W := fun u_56 => wX g X N_7 u_1.2.2.1 u_1.2.2.2.1 u_1.2.2.2.2.1 Ac_8 Ch_9 PS_10 Ly u_5.2.2 OT Ea Ga Im0 Im1 u_1.2.2.2.2.2.2) (rf := fun u_56 => zI u_56) (rm := zrX_forest) cx (fun _ hq => tX_forest hq) d_L_law_254 257 rfl kk_X11_forest q_471 q_472 q_473 rfl e_X rfl ⟨rfl, rfl⟩ ⟨Nat.le_of_ble_eq_true rfl, Nat.le_of_ble_eq_true rfl⟩ rfl rfl (Nat.le_of_ble_eq_true rfl) ⟨hnc, hns⟩ h (fun u_56 h => ?_)
                          refine y_iconst cx d_L_law_257 258 rfl ?_
                          refine z_iload cx d_L_law_258 260 rfl 2 rfl ?_
                          refine y_ishl cx d_L_law_260 261 rfl ?_
                          refine y_ior cx d_L_law_261 262 rfl ?_
                          refine y_callS_i (As := [.ref (g.2.2 92), .int (zI (zor u_56 (zshl 1 v7_26)))]) (rest := []) (W := fun u_57 => wX g X N_7 u_1.2.2.1 u_1.2.2.2.1 u_1.2.2.2.2.1 Ac_8 Ch_9 PS_10 Ly u_5.2.2 OT Ea Ga Im0 Im1 u_1.2.2.2.2.2.2) (rf := fun u_57 => zI u_57) (rm := zrL_isForest) cx (fun _ hq => tL_isForest hq) d_L_law_262 265 rfl kk_L_isForest q_867 q_868 ⟨rfl, rfl⟩ ⟨Nat.le_of_ble_eq_true rfl, Nat.le_of_ble_eq_true rfl⟩ rfl rfl (Nat.le_of_ble_eq_true rfl) ⟨hnc, hns⟩ h (fun u_57 h => ?_)
                          refine y_if_ne cx d_L_law_265 268 rfl 272 (by decide) rfl h (fun h => ?_) (fun h => ?_)
                          · refine y_iconst cx d_L_law_272 273 rfl ?_
                            refine z_sub [4, 5, 6, 7, 2, 1, 0] rfl ?_
                            exact hk_49 _ h
                          · refine y_iconst cx d_L_law_268 269 rfl ?_
                            refine z_goto cx d_L_law_269 273 (by decide) ?_
                            refine z_sub [4, 5, 6, 7, 2, 1, 0] rfl ?_
                            exact hk_49 _ h
                        · refine y_iconst cx d_L_law_246 247 rfl ?_
                          refine z_goto cx d_L_law_247 273 (by decide) ?_
                          refine z_sub [4, 5, 6, 7, 2, 1, 0] rfl ?_
                          exact hk_49 _ h
                      · refine y_iconst cx d_L_law_232 233 rfl ?_
                        refine z_goto cx d_L_law_233 273 (by decide) ?_
                        refine z_sub [4, 5, 6, 7, 2, 1, 0] rfl ?_
                        exact hk_49 _ h
                    · refine ite_c h (fun c_58 h => ?_) (fun c_58 h => ?_)
                      · refine y_swIn cx d_L_law_126 5 (Eq.trans (nm_zand _ _) c_58) 315 (by decide) (by decide) rfl (by decide) ?_
                        refine z_aload_n cx d_L_law_315 316 rfl rfl 5 rfl ?_
                        refine y_iconst cx d_L_law_316 317 rfl ?_
                        refine z_iload cx d_L_law_317 319 rfl 2 rfl ?_
                        refine y_iconst cx d_L_law_319 320 rfl ?_
                        refine y_callSh (As := [.ref (g.2.2 0), .int (zI 0), .int (zI v7_26), .int (zI 4)]) (rest := []) (W := fun u_59 => wX g X N_7 u_1.2.2.1 u_1.2.2.2.1 u_1.2.2.2.2.1 Ac_8 Ch_9 PS_10 Ly u_5.2.2 OT Ea Ga Im0 Im1 u_1.2.2.2.2.2.2) (rf := fun u_59 => zI u_59) (rm := zrL_its) cx (fun _ hq => tL_its hq) d_L_law_320 323 rfl qh_its q_26 qh_itsy q_607 q_608 ⟨rfl, rfl⟩ ⟨Nat.le_of_ble_eq_true rfl, Nat.le_of_ble_eq_true rfl⟩ rfl rfl (Nat.le_of_ble_eq_true rfl) ⟨hnc, hns⟩ h (fun u_59 h => ?_)
                        refine y_istore cx d_L_law_323 325 rfl (by decide) (lv' := [(10, .int (zI u_59)), (9, .int (zI u_29)), (8, .int (zI v8_28)), (7, .int (zI v7_26)), (6, .int (zI v6_24)), (0, .ref b), (1, .ref (g.2.2 0)), (3, .ref (g.2.2 92)), (5, .int (zI v5_6))]) rfl ?_
                        refine z_aload_n cx d_L_law_325 326 rfl rfl 6 rfl ?_
                        refine z_iload cx d_L_law_326 328 rfl 3 rfl ?_
                        refine y_callV_i (As := [.int (zI v7_26)]) (rest := []) (W := fun u_60 => wX g X u_60.2.1 u_1.2.2.1 u_1.2.2.2.1 u_1.2.2.2.2.1 u_60.2.2 Ch_9 PS_10 Ly u_5.2.2 OT Ea Ga Im0 Im1 u_1.2.2.2.2.2.2) (rf := fun u_60 => zI u_60.1) (rm := zrX_breaks) cx (fun _ hq => tX_breaks hq) d_L_law_328 331 rfl kk_X11_breaks q_555 q_556 q_557 rfl e_X rfl ⟨rfl, rfl⟩ ⟨Nat.le_of_ble_eq_true rfl, Nat.le_of_ble_eq_true rfl⟩ rfl rfl (Nat.le_of_ble_eq_true rfl) ⟨hnc, hns⟩ h (fun u_60 h => ?_)
                        refine z_iload cx d_L_law_331 333 rfl 0 rfl ?_
                        refine kf0_f (P := V p l e room_1 s m args below meth c A s.heap g 12 Q (wX g X u_60.2.1 u_1.2.2.1 u_1.2.2.2.1 u_1.2.2.2.2.1 u_60.2.2 Ch_9 PS_10 Ly u_5.2.2 OT Ea Ga Im0 Im1 u_1.2.2.2.2.2.2) (nc + 1) (ns + 6) [] 365 []) h (fun h => ?_) (fun k_61 hk_61 h => ?_)
                        · refine y_iconst cx d_L_law_365 366 rfl ?_
                          exact nomatch h
                        refine y_icmp_ne cx d_L_law_333 336 rfl 365 (by decide) rfl rfl h (fun h => ?_) (fun h => ?_)
                        · refine z_sub [] rfl ?_
                          exact hk_61  h
                        · refine z_aload_n cx d_L_law_336 337 rfl rfl 6 rfl ?_
                          refine y_iconst cx d_L_law_337 338 rfl ?_
                          refine z_iload cx d_L_law_338 340 rfl 3 rfl ?_
                          refine y_iconst cx d_L_law_340 341 rfl ?_
                          refine y_callSh (As := [.ref (g.2.2 0), .int (zI 0), .int (zI v7_26), .int (zI 4)]) (rest := []) (W := fun u_62 => wX g X u_60.2.1 u_1.2.2.1 u_1.2.2.2.1 u_1.2.2.2.2.1 u_60.2.2 Ch_9 PS_10 Ly u_5.2.2 OT Ea Ga Im0 Im1 u_1.2.2.2.2.2.2) (rf := fun u_62 => zI u_62) (rm := zrL_its) cx (fun _ hq => tL_its hq) d_L_law_341 344 rfl qh_its q_26 qh_itsy q_607 q_608 ⟨rfl, rfl⟩ ⟨Nat.le_of_ble_eq_true rfl, Nat.le_of_ble_eq_true rfl⟩ rfl rfl (Nat.le_of_ble_eq_true rfl) ⟨hnc, hns⟩ h (fun u_62 h => ?_)
                          refine y_iconst cx d_L_law_344 345 rfl ?_
                          refine y_icmp_ne cx d_L_law_345 348 rfl 365 (by decide) rfl (nm_eq (x := 1) (by decide) (by decide)) h (fun h => ?_) (fun h => ?_)
                          · refine z_sub [] rfl ?_
                            exact hk_61  h
                          · refine z_aload_n cx d_L_law_348 349 rfl rfl 6 rfl ?_
                            refine z_aload_n cx d_L_law_349 350 rfl rfl 7 rfl ?_
                            refine y_callS_i (As := [.ref (g.2.2 0), .ref (g.2.2 92)]) (rest := []) (W := fun u_63 => wX g X u_60.2.1 u_1.2.2.1 u_1.2.2.2.1 u_1.2.2.2.2.1 u_60.2.2 Ch_9 PS_10 Ly u_5.2.2 OT Ea Ga Im0 Im1 u_1.2.2.2.2.2.2) (rf := fun u_63 => zI u_63) (rm := zrL_lying) cx (fun _ hq => tL_lying hq) d_L_law_350 353 rfl kk_L_lying q_879 q_880 ⟨rfl, rfl⟩ ⟨Nat.le_of_ble_eq_true rfl, Nat.le_of_ble_eq_true rfl⟩ rfl rfl (Nat.le_of_ble_eq_true rfl) ⟨hnc, hns⟩ h (fun u_63 h => ?_)
                            refine z_iload cx d_L_law_353 355 rfl 1 rfl ?_
                            refine y_iconst cx d_L_law_355 356 rfl ?_
                            refine z_iload cx d_L_law_356 358 rfl 3 rfl ?_
                            refine y_ishl cx d_L_law_358 359 rfl ?_
                            refine y_iconst cx d_L_law_359 360 rfl ?_
                            refine y_ixor cx d_L_law_360 361 rfl ?_
                            refine y_iand cx d_L_law_361 362 rfl ?_
                            refine y_icmp_eq cx d_L_law_362 365 rfl 481 (by decide) rfl (nm_zand _ _) h (fun h => ?_) (fun h => ?_)
                            · refine z_sub [5, 6, 7, 8] rfl ?_
                              exact hk_34 _ _ _ _ h
                            · refine z_sub [] rfl ?_
                              exact hk_61  h
                      · refine ite_c h (fun c_64 h => ?_) (fun c_64 h => ?_)
                        · refine y_swIn cx d_L_law_126 6 (Eq.trans (nm_zand _ _) c_64) 367 (by decide) (by decide) rfl (by decide) ?_
                          refine z_aload_n cx d_L_law_367 368 rfl rfl 5 rfl ?_
                          refine y_iconst cx d_L_law_368 369 rfl ?_
                          refine z_iload cx d_L_law_369 371 rfl 2 rfl ?_
                          refine y_iconst cx d_L_law_371 372 rfl ?_
                          refine y_callSh (As := [.ref (g.2.2 0), .int (zI 0), .int (zI v7_26), .int (zI 4)]) (rest := []) (W := fun u_65 => wX g X N_7 u_1.2.2.1 u_1.2.2.2.1 u_1.2.2.2.2.1 Ac_8 Ch_9 PS_10 Ly u_5.2.2 OT Ea Ga Im0 Im1 u_1.2.2.2.2.2.2) (rf := fun u_65 => zI u_65) (rm := zrL_its) cx (fun _ hq => tL_its hq) d_L_law_372 375 rfl qh_its q_26 qh_itsy q_607 q_608 ⟨rfl, rfl⟩ ⟨Nat.le_of_ble_eq_true rfl, Nat.le_of_ble_eq_true rfl⟩ rfl rfl (Nat.le_of_ble_eq_true rfl) ⟨hnc, hns⟩ h (fun u_65 h => ?_)
                          refine y_istore cx d_L_law_375 377 rfl (by decide) (lv' := [(10, .int (zI u_65)), (9, .int (zI u_29)), (8, .int (zI v8_28)), (7, .int (zI v7_26)), (6, .int (zI v6_24)), (0, .ref b), (1, .ref (g.2.2 0)), (3, .ref (g.2.2 92)), (5, .int (zI v5_6))]) rfl ?_
                          refine z_aload_n cx d_L_law_377 378 rfl rfl 6 rfl ?_
                          refine z_iload cx d_L_law_378 380 rfl 3 rfl ?_
                          refine y_callV_i (As := [.int (zI v7_26)]) (rest := []) (W := fun u_66 => wX g X u_66.2.1 u_1.2.2.1 u_1.2.2.2.1 u_1.2.2.2.2.1 u_66.2.2 Ch_9 PS_10 Ly u_5.2.2 OT Ea Ga Im0 Im1 u_1.2.2.2.2.2.2) (rf := fun u_66 => zI u_66.1) (rm := zrX_mend) cx (fun _ hq => tX_mend hq) d_L_law_380 383 rfl kk_X11_mend q_563 q_564 q_565 rfl e_X rfl ⟨rfl, rfl⟩ ⟨Nat.le_of_ble_eq_true rfl, Nat.le_of_ble_eq_true rfl⟩ rfl rfl (Nat.le_of_ble_eq_true rfl) ⟨hnc, hns⟩ h (fun u_66 h => ?_)
                          refine y_iconst cx d_L_law_383 384 rfl ?_
                          refine z_iload cx d_L_law_384 386 rfl 0 rfl ?_
                          refine y_isub cx d_L_law_386 387 rfl ?_
                          refine kf0_f (P := V p l e room_1 s m args below meth c A s.heap g 12 Q (wX g X u_66.2.1 u_1.2.2.1 u_1.2.2.2.1 u_1.2.2.2.2.1 u_66.2.2 Ch_9 PS_10 Ly u_5.2.2 OT Ea Ga Im0 Im1 u_1.2.2.2.2.2.2) (nc + 1) (ns + 6) [] 411 []) h (fun h => ?_) (fun k_67 hk_67 h => ?_)
                          · refine y_iconst cx d_L_law_411 412 rfl ?_
                            exact nomatch h
                          refine y_icmp_ne cx d_L_law_387 390 rfl 411 (by decide) rfl rfl h (fun h => ?_) (fun h => ?_)
                          · refine z_sub [] rfl ?_
                            exact hk_67  h
                          · refine z_aload_n cx d_L_law_390 391 rfl rfl 6 rfl ?_
                            refine y_iconst cx d_L_law_391 392 rfl ?_
                            refine z_iload cx d_L_law_392 394 rfl 3 rfl ?_
                            refine y_iconst cx d_L_law_394 395 rfl ?_
                            refine y_callSh (As := [.ref (g.2.2 0), .int (zI 0), .int (zI v7_26), .int (zI 4)]) (rest := []) (W := fun u_68 => wX g X u_66.2.1 u_1.2.2.1 u_1.2.2.2.1 u_1.2.2.2.2.1 u_66.2.2 Ch_9 PS_10 Ly u_5.2.2 OT Ea Ga Im0 Im1 u_1.2.2.2.2.2.2) (rf := fun u_68 => zI u_68) (rm := zrL_its) cx (fun _ hq => tL_its hq) d_L_law_395 398 rfl qh_its q_26 qh_itsy q_607 q_608 ⟨rfl, rfl⟩ ⟨Nat.le_of_ble_eq_true rfl, Nat.le_of_ble_eq_true rfl⟩ rfl rfl (Nat.le_of_ble_eq_true rfl) ⟨hnc, hns⟩ h (fun u_68 h => ?_)
                            refine y_if_ne cx d_L_law_398 401 rfl 411 (by decide) rfl h (fun h => ?_) (fun h => ?_)
                            · refine z_sub [] rfl ?_
                              exact hk_67  h
                            · refine z_aload_n cx d_L_law_401 402 rfl rfl 6 rfl ?_
                              refine z_aload_n cx d_L_law_402 403 rfl rfl 7 rfl ?_
                              refine y_callS_i (As := [.ref (g.2.2 0), .ref (g.2.2 92)]) (rest := []) (W := fun u_69 => wX g X u_66.2.1 u_1.2.2.1 u_1.2.2.2.1 u_1.2.2.2.2.1 u_66.2.2 Ch_9 PS_10 Ly u_5.2.2 OT Ea Ga Im0 Im1 u_1.2.2.2.2.2.2) (rf := fun u_69 => zI u_69) (rm := zrL_lying) cx (fun _ hq => tL_lying hq) d_L_law_403 406 rfl kk_L_lying q_879 q_880 ⟨rfl, rfl⟩ ⟨Nat.le_of_ble_eq_true rfl, Nat.le_of_ble_eq_true rfl⟩ rfl rfl (Nat.le_of_ble_eq_true rfl) ⟨hnc, hns⟩ h (fun u_69 h => ?_)
                              refine z_iload cx d_L_law_406 408 rfl 1 rfl ?_
                              refine y_icmp_eq cx d_L_law_408 411 rfl 481 (by decide) rfl rfl h (fun h => ?_) (fun h => ?_)
                              · refine z_sub [5, 6, 7, 8] rfl ?_
                                exact hk_34 _ _ _ _ h
                              · refine z_sub [] rfl ?_
                                exact hk_67  h
                        · refine y_swOut cx d_L_law_126 (by rw [nm_zand]; omega) 413 (by decide) ?_
                          refine z_aload_n cx d_L_law_413 414 rfl rfl 5 rfl ?_
                          refine y_callV_i (As := []) (rest := []) (W := fun u_70 => wX g X u_70.2.1 u_1.2.2.1 u_1.2.2.2.1 u_1.2.2.2.2.1 u_70.2.2.1 u_70.2.2.2 PS_10 Ly u_5.2.2 OT Ea Ga Im0 Im1 u_1.2.2.2.2.2.2) (rf := fun u_70 => zI u_70.1) (rm := zrX_pack) cx (fun _ hq => tX_pack hq) d_L_law_414 417 rfl kk_X11_pack q_526 q_527 q_528 rfl e_X rfl ⟨rfl, rfl⟩ ⟨Nat.le_of_ble_eq_true rfl, Nat.le_of_ble_eq_true rfl⟩ rfl rfl (Nat.le_of_ble_eq_true rfl) ⟨hnc, hns⟩ h (fun u_70 h => ?_)
                          refine y_istore cx d_L_law_417 419 rfl (by decide) (lv' := [(10, .int (zI u_70.1)), (9, .int (zI u_29)), (8, .int (zI v8_28)), (7, .int (zI v7_26)), (6, .int (zI v6_24)), (0, .ref b), (1, .ref (g.2.2 0)), (3, .ref (g.2.2 92)), (5, .int (zI v5_6))]) rfl ?_
                          refine z_aload_n cx d_L_law_419 420 rfl rfl 6 rfl ?_
                          refine z_aload_n cx d_L_law_420 421 rfl rfl 7 rfl ?_
                          refine y_callS_i (As := [.ref (g.2.2 0), .ref (g.2.2 92)]) (rest := []) (W := fun u_71 => wX g X u_70.2.1 u_1.2.2.1 u_1.2.2.2.1 u_1.2.2.2.2.1 u_70.2.2.1 u_70.2.2.2 PS_10 Ly u_5.2.2 OT Ea Ga Im0 Im1 u_1.2.2.2.2.2.2) (rf := fun u_71 => zI u_71) (rm := zrL_lying) cx (fun _ hq => tL_lying hq) d_L_law_421 424 rfl kk_L_lying q_879 q_880 ⟨rfl, rfl⟩ ⟨Nat.le_of_ble_eq_true rfl, Nat.le_of_ble_eq_true rfl⟩ rfl rfl (Nat.le_of_ble_eq_true rfl) ⟨hnc, hns⟩ h (fun u_71 h => ?_)
                          refine y_istore cx d_L_law_424 426 rfl (by decide) (lv' := [(11, .int (zI u_71)), (10, .int (zI u_70.1)), (9, .int (zI u_29)), (8, .int (zI v8_28)), (7, .int (zI v7_26)), (6, .int (zI v6_24)), (0, .ref b), (1, .ref (g.2.2 0)), (3, .ref (g.2.2 92)), (5, .int (zI v5_6))]) rfl ?_
                          refine z_iload cx d_L_law_426 428 rfl 0 rfl ?_
                          refine kf4_f (P := fun (N_72 : ZB) (Ac_73 : ZA) (Ch_74 : ZB) (PS_75 : ZB) => V p l e room_1 s m args below meth c A s.heap g 12 Q (wX g X N_72 u_1.2.2.1 u_1.2.2.2.1 u_1.2.2.2.2.1 Ac_73 Ch_74 PS_75 Ly u_5.2.2 OT Ea Ga Im0 Im1 u_1.2.2.2.2.2.2) (nc + 1) (ns + 6) [] 479 []) h (fun N_72 Ac_73 Ch_74 PS_75 h => ?_) (fun k_76 hk_76 h => ?_)
                          · refine y_iconst cx d_L_law_479 480 rfl ?_
                            exact nomatch h
                          refine y_if_lt cx d_L_law_428 431 rfl 479 (by decide) rfl h (fun h => ?_) (fun h => ?_)
                          · refine z_sub [] rfl ?_
                            exact hk_76 _ _ _ _ h
                          · refine z_iload cx d_L_law_431 433 rfl 2 rfl ?_
                            refine z_iload cx d_L_law_433 435 rfl 0 rfl ?_
                            refine y_iconst cx d_L_law_435 436 rfl ?_
                            refine y_ixor cx d_L_law_436 437 rfl ?_
                            refine y_iand cx d_L_law_437 438 rfl ?_
                            refine y_if_ne cx d_L_law_438 441 rfl 479 (by decide) (nm_zand _ _) h (fun h => ?_) (fun h => ?_)
                            · refine z_sub [] rfl ?_
                              exact hk_76 _ _ _ _ h
                            · refine z_iload cx d_L_law_441 443 rfl 0 rfl ?_
                              refine y_callS_i (As := [.int (zI u_71)]) (rest := []) (W := fun u_77 => wX g X u_70.2.1 u_1.2.2.1 u_1.2.2.2.1 u_1.2.2.2.2.1 u_70.2.2.1 u_70.2.2.2 PS_10 Ly u_5.2.2 OT Ea Ga Im0 Im1 u_1.2.2.2.2.2.2) (rf := fun u_77 => zI u_77) (rm := zr0) cx (fun _ hq => tL_bits hq) d_L_law_443 446 rfl kk_L_bits q_861 q_862 ⟨rfl, rfl⟩ ⟨Nat.le_of_ble_eq_true rfl, Nat.le_of_ble_eq_true rfl⟩ rfl rfl (Nat.le_of_ble_eq_true rfl) ⟨hnc, hns⟩ h (fun u_77 h => ?_)
                              refine z_iload cx d_L_law_446 448 rfl 2 rfl ?_
                              refine y_callS_i (As := [.int (zI u_29)]) (rest := [.int (zI u_77)]) (W := fun u_78 => wX g X u_70.2.1 u_1.2.2.1 u_1.2.2.2.1 u_1.2.2.2.2.1 u_70.2.2.1 u_70.2.2.2 PS_10 Ly u_5.2.2 OT Ea Ga Im0 Im1 u_1.2.2.2.2.2.2) (rf := fun u_78 => zI u_78) (rm := zr0) cx (fun _ hq => tL_bits hq) d_L_law_448 451 rfl kk_L_bits q_861 q_862 ⟨rfl, rfl⟩ ⟨Nat.le_of_ble_eq_true rfl, Nat.le_of_ble_eq_true rfl⟩ rfl rfl (Nat.le_of_ble_eq_true rfl) ⟨hnc, hns⟩ h (fun u_78 h => ?_)
                              refine z_iload cx d_L_law_451 453 rfl 1 rfl ?_
                              refine y_iadd cx d_L_law_453 454 rfl ?_
                              refine y_icmp_ne cx d_L_law_454 457 rfl 479 (by decide) rfl rfl h (fun h => ?_) (fun h => ?_)
                              · refine z_sub [] rfl ?_
                                exact hk_76 _ _ _ _ h
                              · refine z_iload cx d_L_law_457 459 rfl 0 rfl ?_
                                refine y_callS_i (As := [.int (zI u_71)]) (rest := []) (W := fun u_79 => wX g X u_70.2.1 u_1.2.2.1 u_1.2.2.2.1 u_1.2.2.2.2.1 u_70.2.2.1 u_70.2.2.2 PS_10 Ly u_5.2.2 OT Ea Ga Im0 Im1 u_1.2.2.2.2.2.2) (rf := fun u_79 => zI u_79) (rm := zr0) cx (fun _ hq => tL_bits hq) d_L_law_459 462 rfl kk_L_bits q_861 q_862 ⟨rfl, rfl⟩ ⟨Nat.le_of_ble_eq_true rfl, Nat.le_of_ble_eq_true rfl⟩ rfl rfl (Nat.le_of_ble_eq_true rfl) ⟨hnc, hns⟩ h (fun u_79 h => ?_)
                                refine z_aload_n cx d_L_law_462 463 rfl rfl 7 rfl ?_
                                refine z_aload_n cx d_L_law_463 464 rfl rfl 8 rfl ?_
                                refine y_iconst cx d_L_law_464 465 rfl ?_
                                refine y_ialdx cx d_L_law_465 466 rfl e_La_v (by decide) h (fun x_80 h => ?_)
                                refine y_callV_i (As := [.int (zI x_80)]) (rest := [.int (zI u_79)]) (W := fun u_81 => wX g X u_70.2.1 u_1.2.2.1 u_1.2.2.2.1 u_1.2.2.2.2.1 u_70.2.2.1 u_70.2.2.2 u_81.2 Ly u_5.2.2 OT Ea Ga Im0 Im1 u_1.2.2.2.2.2.2) (rf := fun u_81 => zI u_81.1) (rm := zrX_most) cx (fun _ hq => tX_most hq) d_L_law_466 469 rfl kk_X11_most q_571 q_572 q_573 rfl e_X rfl ⟨rfl, rfl⟩ ⟨Nat.le_of_ble_eq_true rfl, Nat.le_of_ble_eq_true rfl⟩ rfl rfl (Nat.le_of_ble_eq_true rfl) ⟨hnc, hns⟩ h (fun u_81 h => ?_)
                                refine y_icmp_ne cx d_L_law_469 472 rfl 479 (by decide) rfl rfl h (fun h => ?_) (fun h => ?_)
                                · refine z_sub [] rfl ?_
                                  exact hk_76 _ _ _ _ h
                                · refine z_aload_n cx d_L_law_472 473 rfl rfl 7 rfl ?_
                                  refine y_callV_i (As := []) (rest := []) (W := fun u_82 => wX g X u_82.2.1 u_1.2.2.1 u_1.2.2.2.1 u_1.2.2.2.2.1 u_82.2.2.1 u_82.2.2.2 u_81.2 Ly u_5.2.2 OT Ea Ga Im0 Im1 u_1.2.2.2.2.2.2) (rf := fun u_82 => zI u_82.1) (rm := zrX_pack) cx (fun _ hq => tX_pack hq) d_L_law_473 476 rfl kk_X11_pack q_526 q_527 q_528 rfl e_X rfl ⟨rfl, rfl⟩ ⟨Nat.le_of_ble_eq_true rfl, Nat.le_of_ble_eq_true rfl⟩ rfl rfl (Nat.le_of_ble_eq_true rfl) ⟨hnc, hns⟩ h (fun u_82 h => ?_)
                                  refine y_if_eq cx d_L_law_476 479 rfl 481 (by decide) rfl h (fun h => ?_) (fun h => ?_)
                                  · refine z_sub [6, 7, 8, 9] rfl ?_
                                    exact hk_34 _ _ _ _ h
                                  · refine z_sub [] rfl ?_
                                    exact hk_76 _ _ _ _ h
    · refine z_sub [] rfl ?_
      exact hk_4 _ _ h
