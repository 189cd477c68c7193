-- needs: 05zy.thr
def zrX_line : Room := { frames := 6, cells := 1, slots := 6, locals := 90 }
set_option maxHeartbeats 4000000 in
theorem tX_line {l : Launch} {ks : ZS} {g : ZG} {X : ZB} {N : ZB} {T : ZB} {Rd : ZB} {Fr : ZB} {Ac : ZA} {Ch : ZB} {PS : ZB} {Ly : ZB} {Pa : ZQ} {OT : ZB} {Ea : ZB} {Ga : ZB} {Im0 : ZO} {Im1 : ZO} {La : ZB} {a1 : Int} {a2 : Int} {r : Int × Int} (h : fX_line N a1 a2 = some r) (hl9 : l.stackTraces = false) : zMx l ks yX11_line cX11_line 3 zrX_line g [.ref (g.2.2 0), .int (zI a1), .int (zI a2)] (wX g X N T Rd Fr Ac Ch PS Ly Pa OT Ea Ga Im0 Im1 La) (wX g X N T Rd Fr Ac Ch PS Ly Pa OT Ea Ga Im0 Im1 La) r.1 (zI r.2) := by
  unfold fX_line at h
  refine zMx_of (own := "ForestPacks") rfl (by decide +kernel) (Nat.le_of_ble_eq_true rfl) (lv := [(0, .ref (g.2.2 0)), (1, .int (zI a1)), (2, .int (zI a2))]) rfl ⟨rfl, rfl⟩ ?_
  intro p e s m args below meth c A Q hQ cx hE htab
  refine z_aload_n cx d_X11_line_0 1 rfl rfl 0 rfl ?_
  refine z_get cx d_X11_line_1 4 rfl e_X rfl zX11 0 (by decide) q_432 rfl rfl ?_
  refine z_iload_n cx d_X11_line_4 5 rfl rfl 1 rfl ?_
  refine y_callV_i (As := [.int (zI a1)]) (rest := []) (W := fun u_1 => wX g X N T Rd Fr Ac Ch PS Ly Pa OT Ea Ga Im0 Im1 La) (rf := fun u_1 => zI u_1) (rm := zr0) cx (fun _ hq => tN_hasLine hq) d_X11_line_5 8 rfl kk_X5_hasLine q_487 q_488 q_489 rfl e_N rfl ⟨rfl, rfl⟩ ⟨Nat.le_of_ble_eq_true rfl, Nat.le_of_ble_eq_true rfl⟩ rfl rfl (Nat.le_of_ble_eq_true rfl) ⟨Nat.zero_le _, Nat.zero_le _⟩ h (fun u_1 h => ?_)
  refine kf0_f (P := V p l e zrX_line s m args below meth c A s.heap g 3 Q (wX g X N T Rd Fr Ac Ch PS Ly Pa OT Ea Ga Im0 Im1 La) 0 0 [] 20 []) h (fun h => ?_) (fun k_2 hk_2 h => ?_)
  · subst hQ
    obtain rfl := Option.some.inj h
    exact z_throw cx hE hl9 htab hE.1.2.2.2.2.2.2.2.1 d_X11_line_20 d_X11_line_23 d_X11_line_24 d_X11_line_26 d_X11_line_29 q_615 q_49 (Nat.le_of_ble_eq_true rfl) (Nat.le_of_ble_eq_true rfl) (Nat.le_of_ble_eq_true rfl) (Nat.le_of_ble_eq_true rfl) rfl rfl
  refine y_if_eq cx d_X11_line_8 11 rfl 20 (by decide) rfl h (fun h => ?_) (fun h => ?_)
  · refine z_sub [] rfl ?_
    exact hk_2  h
  · refine z_iload_n cx d_X11_line_11 12 rfl rfl 2 rfl ?_
    refine y_if_lt cx d_X11_line_12 15 rfl 20 (by decide) rfl h (fun h => ?_) (fun h => ?_)
    · refine z_sub [] rfl ?_
      exact hk_2  h
    · refine z_iload_n cx d_X11_line_15 16 rfl rfl 2 rfl ?_
      refine y_iconst cx d_X11_line_16 17 rfl ?_
      refine y_icmp_le cx d_X11_line_17 20 rfl 30 (by decide) rfl (nm_eq (x := 4) (by decide) (by decide)) h (fun h => ?_) (fun h => ?_)
      · refine z_iload_n cx d_X11_line_30 31 rfl rfl 2 rfl ?_
        refine ite_c h (fun c_3 h => ?_) (fun c_3 h => ?_)
        · refine y_swIn cx d_X11_line_31 0 (Eq.trans rfl c_3) 60 (by decide) (by decide) rfl (by decide) ?_
          refine z_aload_n cx d_X11_line_60 61 rfl rfl 0 rfl ?_
          refine z_get cx d_X11_line_61 64 rfl e_X rfl zX11 0 (by decide) q_432 rfl rfl ?_
          refine z_get cx d_X11_line_64 67 rfl e_N rfl zX5 0 (by decide) q_67 rfl rfl ?_
          refine z_iload_n cx d_X11_line_67 68 rfl rfl 1 rfl ?_
          refine y_ialdx cx d_X11_line_68 69 rfl e_N_first (by decide) h (fun x_4 h => ?_)
          subst hQ
          obtain rfl := Option.some.inj h
          exact z_iretx cx d_X11_line_69 rfl rfl rfl
        · refine ite_c h (fun c_5 h => ?_) (fun c_5 h => ?_)
          · refine y_swIn cx d_X11_line_31 1 (Eq.trans rfl c_5) 70 (by decide) (by decide) rfl (by decide) ?_
            refine z_aload_n cx d_X11_line_70 71 rfl rfl 0 rfl ?_
            refine z_get cx d_X11_line_71 74 rfl e_X rfl zX11 0 (by decide) q_432 rfl rfl ?_
            refine z_get cx d_X11_line_74 77 rfl e_N rfl zX5 1 (by decide) q_71 rfl rfl ?_
            refine z_iload_n cx d_X11_line_77 78 rfl rfl 1 rfl ?_
            refine y_ialdx cx d_X11_line_78 79 rfl e_N_second (by decide) h (fun x_6 h => ?_)
            subst hQ
            obtain rfl := Option.some.inj h
            exact z_iretx cx d_X11_line_79 rfl rfl rfl
          · refine ite_c h (fun c_7 h => ?_) (fun c_7 h => ?_)
            · refine y_swIn cx d_X11_line_31 2 (Eq.trans rfl c_7) 80 (by decide) (by decide) rfl (by decide) ?_
              refine z_aload_n cx d_X11_line_80 81 rfl rfl 0 rfl ?_
              refine z_get cx d_X11_line_81 84 rfl e_X rfl zX11 0 (by decide) q_432 rfl rfl ?_
              refine z_get cx d_X11_line_84 87 rfl e_N rfl zX5 2 (by decide) q_73 rfl rfl ?_
              refine z_iload_n cx d_X11_line_87 88 rfl rfl 1 rfl ?_
              refine y_ialdx cx d_X11_line_88 89 rfl e_N_weight (by decide) h (fun x_8 h => ?_)
              subst hQ
              obtain rfl := Option.some.inj h
              exact z_iretx cx d_X11_line_89 rfl rfl rfl
            · refine ite_c h (fun c_9 h => ?_) (fun c_9 h => ?_)
              · refine y_swIn cx d_X11_line_31 3 (Eq.trans rfl c_9) 90 (by decide) (by decide) rfl (by decide) ?_
                refine z_aload_n cx d_X11_line_90 91 rfl rfl 0 rfl ?_
                refine z_get cx d_X11_line_91 94 rfl e_X rfl zX11 0 (by decide) q_432 rfl rfl ?_
                refine z_get cx d_X11_line_94 97 rfl e_N rfl zX5 3 (by decide) q_76 rfl rfl ?_
                refine z_iload_n cx d_X11_line_97 98 rfl rfl 1 rfl ?_
                refine y_ialdx cx d_X11_line_98 99 rfl e_N_home (by decide) h (fun x_10 h => ?_)
                subst hQ
                obtain rfl := Option.some.inj h
                exact z_iretx cx d_X11_line_99 rfl rfl rfl
              · refine y_swOut cx d_X11_line_31 (by omega) 100 (by decide) ?_
                refine z_aload_n cx d_X11_line_100 101 rfl rfl 0 rfl ?_
                refine z_get cx d_X11_line_101 104 rfl e_X rfl zX11 0 (by decide) q_432 rfl rfl ?_
                refine z_iload_n cx d_X11_line_104 105 rfl rfl 1 rfl ?_
                refine y_callV_i (As := [.int (zI a1)]) (rest := []) (W := fun u_11 => wX g X N T Rd Fr Ac Ch PS Ly Pa OT Ea Ga Im0 Im1 La) (rf := fun u_11 => zI u_11) (rm := zr0) cx (fun _ hq => tN_isSound hq) d_X11_line_105 108 rfl kk_X5_isSound q_495 q_496 q_497 rfl e_N rfl ⟨rfl, rfl⟩ ⟨Nat.le_of_ble_eq_true rfl, Nat.le_of_ble_eq_true rfl⟩ rfl rfl (Nat.le_of_ble_eq_true rfl) ⟨Nat.zero_le _, Nat.zero_le _⟩ h (fun u_11 h => ?_)
                refine kf1_f (P := fun (w0_12 : Int) => V p l e zrX_line s m args below meth c A s.heap g 3 Q (wX g X N T Rd Fr Ac Ch PS Ly Pa OT Ea Ga Im0 Im1 La) 0 0 [] 116 [.int (zI w0_12)]) h (fun w0_12 h => ?_) (fun k_13 hk_13 h => ?_)
                · subst hQ
                  obtain rfl := Option.some.inj h
                  exact z_iretx cx d_X11_line_116 rfl rfl rfl
                refine y_if_eq cx d_X11_line_108 111 rfl 115 (by decide) rfl h (fun h => ?_) (fun h => ?_)
                · refine y_iconst cx d_X11_line_115 116 rfl ?_
                  refine z_sub [] rfl ?_
                  exact hk_13 _ h
                · refine y_iconst cx d_X11_line_111 112 rfl ?_
                  refine z_goto cx d_X11_line_112 116 (by decide) ?_
                  refine z_sub [] rfl ?_
                  exact hk_13 _ h
      · refine z_sub [] rfl ?_
        exact hk_2  h
