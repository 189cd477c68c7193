-- needs: 06.world
def zrN_become : Room := { frames := 1, cells := 0, slots := 0, locals := 40 }
set_option maxHeartbeats 4000000 in
theorem tN_become_N_Fr {l : Launch} {g : ZG} {X : ZB} {N : ZB} {T : ZB} {Rd : ZB} {Fr : ZB} {Ac : ZA} {Ch : ZB} {PS : ZB} {Ly : ZB} {Pa : ZQ} {OT : ZB} {Ea : ZB} {Ga : ZB} {Im0 : ZO} {Im1 : ZO} {La : ZB} {r : ZB} (h : fN_become N Fr = some r) : zMv l yX5_become cX5_become 2 none zrN_become g [.ref (g.2.2 1), .ref (g.2.2 10)] (wX g X N T Rd Fr Ac Ch PS Ly Pa OT Ea Ga Im0 Im1 La) (wX g X r T Rd Fr Ac Ch PS Ly Pa OT Ea Ga Im0 Im1 La) := by
  unfold fN_become at h
  refine zMv_q (own := RX5) rfl (by decide +kernel) (Nat.le_of_ble_eq_true rfl) (lv := [(0, .ref (g.2.2 1)), (1, .ref (g.2.2 10))]) rfl ⟨rfl, rfl⟩ ?_
  intro p e s m args below meth c A Q hQ cx
  refine z_aload_n cx d_X5_become_0 1 rfl rfl 1 rfl ?_
  refine z_get cx d_X5_become_1 4 rfl e_Fr rfl zX5 0 (by decide) q_64 rfl rfl ?_
  refine y_iconst cx d_X5_become_4 5 rfl ?_
  refine z_aload_n cx d_X5_become_5 6 rfl rfl 0 rfl ?_
  refine z_get cx d_X5_become_6 9 rfl e_N rfl zX5 0 (by decide) q_64 rfl rfl ?_
  refine y_iconst cx d_X5_become_9 10 rfl ?_
  refine y_bipush cx d_X5_become_10 12 rfl (by decide) ?_
  refine y_copy cx d_X5_become_12 15 rfl q_515 q_517 q_516 q_44 e_Fr_first e_N_first (by decide) (by decide) (Nat.le_of_ble_eq_true rfl) (Nat.le_of_ble_eq_true rfl) h (fun _ h9 => s_N_first h9) (fun D_1 h => ?_)
  refine z_aload_n cx d_X5_become_15 16 rfl rfl 1 rfl ?_
  refine z_get cx d_X5_become_16 19 rfl e_Fr rfl zX5 1 (by decide) q_68 rfl rfl ?_
  refine y_iconst cx d_X5_become_19 20 rfl ?_
  refine z_aload_n cx d_X5_become_20 21 rfl rfl 0 rfl ?_
  refine z_get cx d_X5_become_21 24 rfl e_N rfl zX5 1 (by decide) q_68 rfl rfl ?_
  refine y_iconst cx d_X5_become_24 25 rfl ?_
  refine y_bipush cx d_X5_become_25 27 rfl (by decide) ?_
  refine y_copy cx d_X5_become_27 30 rfl q_515 q_517 q_516 q_44 e_Fr_second e_N_second (by decide) (by decide) (Nat.le_of_ble_eq_true rfl) (Nat.le_of_ble_eq_true rfl) h (fun _ h9 => s_N_second h9) (fun D_2 h => ?_)
  refine z_aload_n cx d_X5_become_30 31 rfl rfl 1 rfl ?_
  refine z_get cx d_X5_become_31 34 rfl e_Fr rfl zX5 2 (by decide) q_72 rfl rfl ?_
  refine y_iconst cx d_X5_become_34 35 rfl ?_
  refine z_aload_n cx d_X5_become_35 36 rfl rfl 0 rfl ?_
  refine z_get cx d_X5_become_36 39 rfl e_N rfl zX5 2 (by decide) q_72 rfl rfl ?_
  refine y_iconst cx d_X5_become_39 40 rfl ?_
  refine y_bipush cx d_X5_become_40 42 rfl (by decide) ?_
  refine y_copy cx d_X5_become_42 45 rfl q_515 q_517 q_516 q_44 e_Fr_weight e_N_weight (by decide) (by decide) (Nat.le_of_ble_eq_true rfl) (Nat.le_of_ble_eq_true rfl) h (fun _ h9 => s_N_weight h9) (fun D_3 h => ?_)
  refine z_aload_n cx d_X5_become_45 46 rfl rfl 1 rfl ?_
  refine z_get cx d_X5_become_46 49 rfl e_Fr rfl zX5 3 (by decide) q_74 rfl rfl ?_
  refine y_iconst cx d_X5_become_49 50 rfl ?_
  refine z_aload_n cx d_X5_become_50 51 rfl rfl 0 rfl ?_
  refine z_get cx d_X5_become_51 54 rfl e_N rfl zX5 3 (by decide) q_74 rfl rfl ?_
  refine y_iconst cx d_X5_become_54 55 rfl ?_
  refine y_bipush cx d_X5_become_55 57 rfl (by decide) ?_
  refine y_copy cx d_X5_become_57 60 rfl q_515 q_517 q_516 q_44 e_Fr_home e_N_home (by decide) (by decide) (Nat.le_of_ble_eq_true rfl) (Nat.le_of_ble_eq_true rfl) h (fun _ h9 => s_N_home h9) (fun D_4 h => ?_)
  refine z_aload_n cx d_X5_become_60 61 rfl rfl 0 rfl ?_
  refine z_aload_n cx d_X5_become_61 62 rfl rfl 1 rfl ?_
  refine z_get cx d_X5_become_62 65 rfl e_Fr rfl zX5 4 (by decide) q_78 rfl rfl ?_
  refine y_put cx d_X5_become_65 68 rfl e_N rfl zX5 tyX5_ok nmX5 4 (by decide) q_78 rfl rfl rfl rfl (Nat.le_of_ble_eq_true rfl) h (fun _ h9 => s_N_4 h9) (fun D_5 h => ?_)
  refine z_aload_n cx d_X5_become_68 69 rfl rfl 0 rfl ?_
  refine z_aload_n cx d_X5_become_69 70 rfl rfl 1 rfl ?_
  refine z_get cx d_X5_become_70 73 rfl e_Fr rfl zX5 5 (by decide) q_84 rfl rfl ?_
  refine y_put cx d_X5_become_73 76 rfl e_N rfl zX5 tyX5_ok nmX5 5 (by decide) q_84 rfl rfl rfl rfl (Nat.le_of_ble_eq_true rfl) h (fun _ h9 => s_N_5 h9) (fun D_6 h => ?_)
  refine z_aload_n cx d_X5_become_76 77 rfl rfl 0 rfl ?_
  refine z_aload_n cx d_X5_become_77 78 rfl rfl 1 rfl ?_
  refine z_get cx d_X5_become_78 81 rfl e_Fr rfl zX5 6 (by decide) q_88 rfl rfl ?_
  refine y_put cx d_X5_become_81 84 rfl e_N rfl zX5 tyX5_ok nmX5 6 (by decide) q_88 rfl rfl rfl rfl (Nat.le_of_ble_eq_true rfl) h (fun _ h9 => s_N_6 h9) (fun D_7 h => ?_)
  refine z_aload_n cx d_X5_become_84 85 rfl rfl 0 rfl ?_
  refine z_aload_n cx d_X5_become_85 86 rfl rfl 1 rfl ?_
  refine z_get cx d_X5_become_86 89 rfl e_Fr rfl zX5 7 (by decide) q_92 rfl rfl ?_
  refine y_put cx d_X5_become_89 92 rfl e_N rfl zX5 tyX5_ok nmX5 7 (by decide) q_92 rfl rfl rfl rfl (Nat.le_of_ble_eq_true rfl) h (fun _ h9 => s_N_7 h9) (fun D_8 h => ?_)
  refine z_aload_n cx d_X5_become_92 93 rfl rfl 0 rfl ?_
  refine z_aload_n cx d_X5_become_93 94 rfl rfl 1 rfl ?_
  refine z_get cx d_X5_become_94 97 rfl e_Fr rfl zX5 8 (by decide) q_93 rfl rfl ?_
  refine y_put cx d_X5_become_97 100 rfl e_N rfl zX5 tyX5_ok nmX5 8 (by decide) q_93 rfl rfl rfl rfl (Nat.le_of_ble_eq_true rfl) h (fun _ h9 => s_N_8 h9) (fun D_9 h => ?_)
  subst hQ
  obtain rfl := Option.some.inj h
  exact z_vret cx d_X5_become_100 rfl
set_option maxHeartbeats 4000000 in
theorem tN_become_N_K0 {l : Launch} {g : ZG} {X : ZB} {N : ZB} {T : ZB} {Rd : ZB} {Fr : ZB} {Ac : ZA} {Ch : ZB} {PS : ZB} {Ly : ZB} {Pa : ZQ} {OT : ZB} {Ea : ZB} {Ga : ZB} {Im0 : ZO} {Im1 : ZO} {La : ZB} {r : ZB} (h : fN_become N (Ac.2 0) = some r) : zMv l yX5_become cX5_become 2 none zrN_become g [.ref (g.2.2 1), .ref (g.2.2 17)] (wX g X N T Rd Fr Ac Ch PS Ly Pa OT Ea Ga Im0 Im1 La) (wX g X r T Rd Fr Ac Ch PS Ly Pa OT Ea Ga Im0 Im1 La) := by
  unfold fN_become at h
  refine zMv_q (own := RX5) rfl (by decide +kernel) (Nat.le_of_ble_eq_true rfl) (lv := [(0, .ref (g.2.2 1)), (1, .ref (g.2.2 17))]) rfl ⟨rfl, rfl⟩ ?_
  intro p e s m args below meth c A Q hQ cx
  refine z_aload_n cx d_X5_become_0 1 rfl rfl 1 rfl ?_
  refine z_get cx d_X5_become_1 4 rfl e_K0 rfl zX5 0 (by decide) q_64 rfl rfl ?_
  refine y_iconst cx d_X5_become_4 5 rfl ?_
  refine z_aload_n cx d_X5_become_5 6 rfl rfl 0 rfl ?_
  refine z_get cx d_X5_become_6 9 rfl e_N rfl zX5 0 (by decide) q_64 rfl rfl ?_
  refine y_iconst cx d_X5_become_9 10 rfl ?_
  refine y_bipush cx d_X5_become_10 12 rfl (by decide) ?_
  refine y_copy cx d_X5_become_12 15 rfl q_515 q_517 q_516 q_44 e_K0_first e_N_first (by decide) (by decide) (Nat.le_of_ble_eq_true rfl) (Nat.le_of_ble_eq_true rfl) h (fun _ h9 => s_N_first h9) (fun D_1 h => ?_)
  refine z_aload_n cx d_X5_become_15 16 rfl rfl 1 rfl ?_
  refine z_get cx d_X5_become_16 19 rfl e_K0 rfl zX5 1 (by decide) q_68 rfl rfl ?_
  refine y_iconst cx d_X5_become_19 20 rfl ?_
  refine z_aload_n cx d_X5_become_20 21 rfl rfl 0 rfl ?_
  refine z_get cx d_X5_become_21 24 rfl e_N rfl zX5 1 (by decide) q_68 rfl rfl ?_
  refine y_iconst cx d_X5_become_24 25 rfl ?_
  refine y_bipush cx d_X5_become_25 27 rfl (by decide) ?_
  refine y_copy cx d_X5_become_27 30 rfl q_515 q_517 q_516 q_44 e_K0_second e_N_second (by decide) (by decide) (Nat.le_of_ble_eq_true rfl) (Nat.le_of_ble_eq_true rfl) h (fun _ h9 => s_N_second h9) (fun D_2 h => ?_)
  refine z_aload_n cx d_X5_become_30 31 rfl rfl 1 rfl ?_
  refine z_get cx d_X5_become_31 34 rfl e_K0 rfl zX5 2 (by decide) q_72 rfl rfl ?_
  refine y_iconst cx d_X5_become_34 35 rfl ?_
  refine z_aload_n cx d_X5_become_35 36 rfl rfl 0 rfl ?_
  refine z_get cx d_X5_become_36 39 rfl e_N rfl zX5 2 (by decide) q_72 rfl rfl ?_
  refine y_iconst cx d_X5_become_39 40 rfl ?_
  refine y_bipush cx d_X5_become_40 42 rfl (by decide) ?_
  refine y_copy cx d_X5_become_42 45 rfl q_515 q_517 q_516 q_44 e_K0_weight e_N_weight (by decide) (by decide) (Nat.le_of_ble_eq_true rfl) (Nat.le_of_ble_eq_true rfl) h (fun _ h9 => s_N_weight h9) (fun D_3 h => ?_)
  refine z_aload_n cx d_X5_become_45 46 rfl rfl 1 rfl ?_
  refine z_get cx d_X5_become_46 49 rfl e_K0 rfl zX5 3 (by decide) q_74 rfl rfl ?_
  refine y_iconst cx d_X5_become_49 50 rfl ?_
  refine z_aload_n cx d_X5_become_50 51 rfl rfl 0 rfl ?_
  refine z_get cx d_X5_become_51 54 rfl e_N rfl zX5 3 (by decide) q_74 rfl rfl ?_
  refine y_iconst cx d_X5_become_54 55 rfl ?_
  refine y_bipush cx d_X5_become_55 57 rfl (by decide) ?_
  refine y_copy cx d_X5_become_57 60 rfl q_515 q_517 q_516 q_44 e_K0_home e_N_home (by decide) (by decide) (Nat.le_of_ble_eq_true rfl) (Nat.le_of_ble_eq_true rfl) h (fun _ h9 => s_N_home h9) (fun D_4 h => ?_)
  refine z_aload_n cx d_X5_become_60 61 rfl rfl 0 rfl ?_
  refine z_aload_n cx d_X5_become_61 62 rfl rfl 1 rfl ?_
  refine z_get cx d_X5_become_62 65 rfl e_K0 rfl zX5 4 (by decide) q_78 rfl rfl ?_
  refine y_put cx d_X5_become_65 68 rfl e_N rfl zX5 tyX5_ok nmX5 4 (by decide) q_78 rfl rfl rfl rfl (Nat.le_of_ble_eq_true rfl) h (fun _ h9 => s_N_4 h9) (fun D_5 h => ?_)
  refine z_aload_n cx d_X5_become_68 69 rfl rfl 0 rfl ?_
  refine z_aload_n cx d_X5_become_69 70 rfl rfl 1 rfl ?_
  refine z_get cx d_X5_become_70 73 rfl e_K0 rfl zX5 5 (by decide) q_84 rfl rfl ?_
  refine y_put cx d_X5_become_73 76 rfl e_N rfl zX5 tyX5_ok nmX5 5 (by decide) q_84 rfl rfl rfl rfl (Nat.le_of_ble_eq_true rfl) h (fun _ h9 => s_N_5 h9) (fun D_6 h => ?_)
  refine z_aload_n cx d_X5_become_76 77 rfl rfl 0 rfl ?_
  refine z_aload_n cx d_X5_become_77 78 rfl rfl 1 rfl ?_
  refine z_get cx d_X5_become_78 81 rfl e_K0 rfl zX5 6 (by decide) q_88 rfl rfl ?_
  refine y_put cx d_X5_become_81 84 rfl e_N rfl zX5 tyX5_ok nmX5 6 (by decide) q_88 rfl rfl rfl rfl (Nat.le_of_ble_eq_true rfl) h (fun _ h9 => s_N_6 h9) (fun D_7 h => ?_)
  refine z_aload_n cx d_X5_become_84 85 rfl rfl 0 rfl ?_
  refine z_aload_n cx d_X5_become_85 86 rfl rfl 1 rfl ?_
  refine z_get cx d_X5_become_86 89 rfl e_K0 rfl zX5 7 (by decide) q_92 rfl rfl ?_
  refine y_put cx d_X5_become_89 92 rfl e_N rfl zX5 tyX5_ok nmX5 7 (by decide) q_92 rfl rfl rfl rfl (Nat.le_of_ble_eq_true rfl) h (fun _ h9 => s_N_7 h9) (fun D_8 h => ?_)
  refine z_aload_n cx d_X5_become_92 93 rfl rfl 0 rfl ?_
  refine z_aload_n cx d_X5_become_93 94 rfl rfl 1 rfl ?_
  refine z_get cx d_X5_become_94 97 rfl e_K0 rfl zX5 8 (by decide) q_93 rfl rfl ?_
  refine y_put cx d_X5_become_97 100 rfl e_N rfl zX5 tyX5_ok nmX5 8 (by decide) q_93 rfl rfl rfl rfl (Nat.le_of_ble_eq_true rfl) h (fun _ h9 => s_N_8 h9) (fun D_9 h => ?_)
  subst hQ
  obtain rfl := Option.some.inj h
  exact z_vret cx d_X5_become_100 rfl
set_option maxHeartbeats 4000000 in
theorem tN_become_K0_N {l : Launch} {g : ZG} {X : ZB} {N : ZB} {T : ZB} {Rd : ZB} {Fr : ZB} {Ac : ZA} {Ch : ZB} {PS : ZB} {Ly : ZB} {Pa : ZQ} {OT : ZB} {Ea : ZB} {Ga : ZB} {Im0 : ZO} {Im1 : ZO} {La : ZB} {D : ZB} {r : ZB} (h : fN_become D N = some r) : zMv l yX5_become cX5_become 2 none zrN_become g [.ref (g.2.2 17), .ref (g.2.2 1)] (wX g X N T Rd Fr (Ac.1, ua Ac.2 0 D) Ch PS Ly Pa OT Ea Ga Im0 Im1 La) (wX g X N T Rd Fr (Ac.1, ua Ac.2 0 r) Ch PS Ly Pa OT Ea Ga Im0 Im1 La) := by
  unfold fN_become at h
  refine zMv_q (own := RX5) rfl (by decide +kernel) (Nat.le_of_ble_eq_true rfl) (lv := [(0, .ref (g.2.2 17)), (1, .ref (g.2.2 1))]) rfl ⟨rfl, rfl⟩ ?_
  intro p e s m args below meth c A Q hQ cx
  refine z_aload_n cx d_X5_become_0 1 rfl rfl 1 rfl ?_
  refine z_get cx d_X5_become_1 4 rfl e_N rfl zX5 0 (by decide) q_64 rfl rfl ?_
  refine y_iconst cx d_X5_become_4 5 rfl ?_
  refine z_aload_n cx d_X5_become_5 6 rfl rfl 0 rfl ?_
  refine z_get cx d_X5_become_6 9 rfl e_D0 rfl zX5 0 (by decide) q_64 rfl rfl ?_
  refine y_iconst cx d_X5_become_9 10 rfl ?_
  refine y_bipush cx d_X5_become_10 12 rfl (by decide) ?_
  refine y_copy cx d_X5_become_12 15 rfl q_515 q_517 q_516 q_44 e_N_first e_D0_first (by decide) (by decide) (Nat.le_of_ble_eq_true rfl) (Nat.le_of_ble_eq_true rfl) h (fun _ h9 => s_D0_first h9) (fun D_1 h => ?_)
  refine z_aload_n cx d_X5_become_15 16 rfl rfl 1 rfl ?_
  refine z_get cx d_X5_become_16 19 rfl e_N rfl zX5 1 (by decide) q_68 rfl rfl ?_
  refine y_iconst cx d_X5_become_19 20 rfl ?_
  refine z_aload_n cx d_X5_become_20 21 rfl rfl 0 rfl ?_
  refine z_get cx d_X5_become_21 24 rfl e_D0 rfl zX5 1 (by decide) q_68 rfl rfl ?_
  refine y_iconst cx d_X5_become_24 25 rfl ?_
  refine y_bipush cx d_X5_become_25 27 rfl (by decide) ?_
  refine y_copy cx d_X5_become_27 30 rfl q_515 q_517 q_516 q_44 e_N_second e_D0_second (by decide) (by decide) (Nat.le_of_ble_eq_true rfl) (Nat.le_of_ble_eq_true rfl) h (fun _ h9 => s_D0_second h9) (fun D_2 h => ?_)
  refine z_aload_n cx d_X5_become_30 31 rfl rfl 1 rfl ?_
  refine z_get cx d_X5_become_31 34 rfl e_N rfl zX5 2 (by decide) q_72 rfl rfl ?_
  refine y_iconst cx d_X5_become_34 35 rfl ?_
  refine z_aload_n cx d_X5_become_35 36 rfl rfl 0 rfl ?_
  refine z_get cx d_X5_become_36 39 rfl e_D0 rfl zX5 2 (by decide) q_72 rfl rfl ?_
  refine y_iconst cx d_X5_become_39 40 rfl ?_
  refine y_bipush cx d_X5_become_40 42 rfl (by decide) ?_
  refine y_copy cx d_X5_become_42 45 rfl q_515 q_517 q_516 q_44 e_N_weight e_D0_weight (by decide) (by decide) (Nat.le_of_ble_eq_true rfl) (Nat.le_of_ble_eq_true rfl) h (fun _ h9 => s_D0_weight h9) (fun D_3 h => ?_)
  refine z_aload_n cx d_X5_become_45 46 rfl rfl 1 rfl ?_
  refine z_get cx d_X5_become_46 49 rfl e_N rfl zX5 3 (by decide) q_74 rfl rfl ?_
  refine y_iconst cx d_X5_become_49 50 rfl ?_
  refine z_aload_n cx d_X5_become_50 51 rfl rfl 0 rfl ?_
  refine z_get cx d_X5_become_51 54 rfl e_D0 rfl zX5 3 (by decide) q_74 rfl rfl ?_
  refine y_iconst cx d_X5_become_54 55 rfl ?_
  refine y_bipush cx d_X5_become_55 57 rfl (by decide) ?_
  refine y_copy cx d_X5_become_57 60 rfl q_515 q_517 q_516 q_44 e_N_home e_D0_home (by decide) (by decide) (Nat.le_of_ble_eq_true rfl) (Nat.le_of_ble_eq_true rfl) h (fun _ h9 => s_D0_home h9) (fun D_4 h => ?_)
  refine z_aload_n cx d_X5_become_60 61 rfl rfl 0 rfl ?_
  refine z_aload_n cx d_X5_become_61 62 rfl rfl 1 rfl ?_
  refine z_get cx d_X5_become_62 65 rfl e_N rfl zX5 4 (by decide) q_78 rfl rfl ?_
  refine y_put cx d_X5_become_65 68 rfl e_D0 rfl zX5 tyX5_ok nmX5 4 (by decide) q_78 rfl rfl rfl rfl (Nat.le_of_ble_eq_true rfl) h (fun _ h9 => s_D0_4 h9) (fun D_5 h => ?_)
  refine z_aload_n cx d_X5_become_68 69 rfl rfl 0 rfl ?_
  refine z_aload_n cx d_X5_become_69 70 rfl rfl 1 rfl ?_
  refine z_get cx d_X5_become_70 73 rfl e_N rfl zX5 5 (by decide) q_84 rfl rfl ?_
  refine y_put cx d_X5_become_73 76 rfl e_D0 rfl zX5 tyX5_ok nmX5 5 (by decide) q_84 rfl rfl rfl rfl (Nat.le_of_ble_eq_true rfl) h (fun _ h9 => s_D0_5 h9) (fun D_6 h => ?_)
  refine z_aload_n cx d_X5_become_76 77 rfl rfl 0 rfl ?_
  refine z_aload_n cx d_X5_become_77 78 rfl rfl 1 rfl ?_
  refine z_get cx d_X5_become_78 81 rfl e_N rfl zX5 6 (by decide) q_88 rfl rfl ?_
  refine y_put cx d_X5_become_81 84 rfl e_D0 rfl zX5 tyX5_ok nmX5 6 (by decide) q_88 rfl rfl rfl rfl (Nat.le_of_ble_eq_true rfl) h (fun _ h9 => s_D0_6 h9) (fun D_7 h => ?_)
  refine z_aload_n cx d_X5_become_84 85 rfl rfl 0 rfl ?_
  refine z_aload_n cx d_X5_become_85 86 rfl rfl 1 rfl ?_
  refine z_get cx d_X5_become_86 89 rfl e_N rfl zX5 7 (by decide) q_92 rfl rfl ?_
  refine y_put cx d_X5_become_89 92 rfl e_D0 rfl zX5 tyX5_ok nmX5 7 (by decide) q_92 rfl rfl rfl rfl (Nat.le_of_ble_eq_true rfl) h (fun _ h9 => s_D0_7 h9) (fun D_8 h => ?_)
  refine z_aload_n cx d_X5_become_92 93 rfl rfl 0 rfl ?_
  refine z_aload_n cx d_X5_become_93 94 rfl rfl 1 rfl ?_
  refine z_get cx d_X5_become_94 97 rfl e_N rfl zX5 8 (by decide) q_93 rfl rfl ?_
  refine y_put cx d_X5_become_97 100 rfl e_D0 rfl zX5 tyX5_ok nmX5 8 (by decide) q_93 rfl rfl rfl rfl (Nat.le_of_ble_eq_true rfl) h (fun _ h9 => s_D0_8 h9) (fun D_9 h => ?_)
  subst hQ
  obtain rfl := Option.some.inj h
  exact z_vret cx d_X5_become_100 rfl
set_option maxHeartbeats 4000000 in
theorem tN_become_N_K1 {l : Launch} {g : ZG} {X : ZB} {N : ZB} {T : ZB} {Rd : ZB} {Fr : ZB} {Ac : ZA} {Ch : ZB} {PS : ZB} {Ly : ZB} {Pa : ZQ} {OT : ZB} {Ea : ZB} {Ga : ZB} {Im0 : ZO} {Im1 : ZO} {La : ZB} {r : ZB} (h : fN_become N (Ac.2 1) = some r) : zMv l yX5_become cX5_become 2 none zrN_become g [.ref (g.2.2 1), .ref (g.2.2 22)] (wX g X N T Rd Fr Ac Ch PS Ly Pa OT Ea Ga Im0 Im1 La) (wX g X r T Rd Fr Ac Ch PS Ly Pa OT Ea Ga Im0 Im1 La) := by
  unfold fN_become at h
  refine zMv_q (own := RX5) rfl (by decide +kernel) (Nat.le_of_ble_eq_true rfl) (lv := [(0, .ref (g.2.2 1)), (1, .ref (g.2.2 22))]) rfl ⟨rfl, rfl⟩ ?_
  intro p e s m args below meth c A Q hQ cx
  refine z_aload_n cx d_X5_become_0 1 rfl rfl 1 rfl ?_
  refine z_get cx d_X5_become_1 4 rfl e_K1 rfl zX5 0 (by decide) q_64 rfl rfl ?_
  refine y_iconst cx d_X5_become_4 5 rfl ?_
  refine z_aload_n cx d_X5_become_5 6 rfl rfl 0 rfl ?_
  refine z_get cx d_X5_become_6 9 rfl e_N rfl zX5 0 (by decide) q_64 rfl rfl ?_
  refine y_iconst cx d_X5_become_9 10 rfl ?_
  refine y_bipush cx d_X5_become_10 12 rfl (by decide) ?_
  refine y_copy cx d_X5_become_12 15 rfl q_515 q_517 q_516 q_44 e_K1_first e_N_first (by decide) (by decide) (Nat.le_of_ble_eq_true rfl) (Nat.le_of_ble_eq_true rfl) h (fun _ h9 => s_N_first h9) (fun D_1 h => ?_)
  refine z_aload_n cx d_X5_become_15 16 rfl rfl 1 rfl ?_
  refine z_get cx d_X5_become_16 19 rfl e_K1 rfl zX5 1 (by decide) q_68 rfl rfl ?_
  refine y_iconst cx d_X5_become_19 20 rfl ?_
  refine z_aload_n cx d_X5_become_20 21 rfl rfl 0 rfl ?_
  refine z_get cx d_X5_become_21 24 rfl e_N rfl zX5 1 (by decide) q_68 rfl rfl ?_
  refine y_iconst cx d_X5_become_24 25 rfl ?_
  refine y_bipush cx d_X5_become_25 27 rfl (by decide) ?_
  refine y_copy cx d_X5_become_27 30 rfl q_515 q_517 q_516 q_44 e_K1_second e_N_second (by decide) (by decide) (Nat.le_of_ble_eq_true rfl) (Nat.le_of_ble_eq_true rfl) h (fun _ h9 => s_N_second h9) (fun D_2 h => ?_)
  refine z_aload_n cx d_X5_become_30 31 rfl rfl 1 rfl ?_
  refine z_get cx d_X5_become_31 34 rfl e_K1 rfl zX5 2 (by decide) q_72 rfl rfl ?_
  refine y_iconst cx d_X5_become_34 35 rfl ?_
  refine z_aload_n cx d_X5_become_35 36 rfl rfl 0 rfl ?_
  refine z_get cx d_X5_become_36 39 rfl e_N rfl zX5 2 (by decide) q_72 rfl rfl ?_
  refine y_iconst cx d_X5_become_39 40 rfl ?_
  refine y_bipush cx d_X5_become_40 42 rfl (by decide) ?_
  refine y_copy cx d_X5_become_42 45 rfl q_515 q_517 q_516 q_44 e_K1_weight e_N_weight (by decide) (by decide) (Nat.le_of_ble_eq_true rfl) (Nat.le_of_ble_eq_true rfl) h (fun _ h9 => s_N_weight h9) (fun D_3 h => ?_)
  refine z_aload_n cx d_X5_become_45 46 rfl rfl 1 rfl ?_
  refine z_get cx d_X5_become_46 49 rfl e_K1 rfl zX5 3 (by decide) q_74 rfl rfl ?_
  refine y_iconst cx d_X5_become_49 50 rfl ?_
  refine z_aload_n cx d_X5_become_50 51 rfl rfl 0 rfl ?_
  refine z_get cx d_X5_become_51 54 rfl e_N rfl zX5 3 (by decide) q_74 rfl rfl ?_
  refine y_iconst cx d_X5_become_54 55 rfl ?_
  refine y_bipush cx d_X5_become_55 57 rfl (by decide) ?_
  refine y_copy cx d_X5_become_57 60 rfl q_515 q_517 q_516 q_44 e_K1_home e_N_home (by decide) (by decide) (Nat.le_of_ble_eq_true rfl) (Nat.le_of_ble_eq_true rfl) h (fun _ h9 => s_N_home h9) (fun D_4 h => ?_)
  refine z_aload_n cx d_X5_become_60 61 rfl rfl 0 rfl ?_
  refine z_aload_n cx d_X5_become_61 62 rfl rfl 1 rfl ?_
  refine z_get cx d_X5_become_62 65 rfl e_K1 rfl zX5 4 (by decide) q_78 rfl rfl ?_
  refine y_put cx d_X5_become_65 68 rfl e_N rfl zX5 tyX5_ok nmX5 4 (by decide) q_78 rfl rfl rfl rfl (Nat.le_of_ble_eq_true rfl) h (fun _ h9 => s_N_4 h9) (fun D_5 h => ?_)
  refine z_aload_n cx d_X5_become_68 69 rfl rfl 0 rfl ?_
  refine z_aload_n cx d_X5_become_69 70 rfl rfl 1 rfl ?_
  refine z_get cx d_X5_become_70 73 rfl e_K1 rfl zX5 5 (by decide) q_84 rfl rfl ?_
  refine y_put cx d_X5_become_73 76 rfl e_N rfl zX5 tyX5_ok nmX5 5 (by decide) q_84 rfl rfl rfl rfl (Nat.le_of_ble_eq_true rfl) h (fun _ h9 => s_N_5 h9) (fun D_6 h => ?_)
  refine z_aload_n cx d_X5_become_76 77 rfl rfl 0 rfl ?_
  refine z_aload_n cx d_X5_become_77 78 rfl rfl 1 rfl ?_
  refine z_get cx d_X5_become_78 81 rfl e_K1 rfl zX5 6 (by decide) q_88 rfl rfl ?_
  refine y_put cx d_X5_become_81 84 rfl e_N rfl zX5 tyX5_ok nmX5 6 (by decide) q_88 rfl rfl rfl rfl (Nat.le_of_ble_eq_true rfl) h (fun _ h9 => s_N_6 h9) (fun D_7 h => ?_)
  refine z_aload_n cx d_X5_become_84 85 rfl rfl 0 rfl ?_
  refine z_aload_n cx d_X5_become_85 86 rfl rfl 1 rfl ?_
  refine z_get cx d_X5_become_86 89 rfl e_K1 rfl zX5 7 (by decide) q_92 rfl rfl ?_
  refine y_put cx d_X5_become_89 92 rfl e_N rfl zX5 tyX5_ok nmX5 7 (by decide) q_92 rfl rfl rfl rfl (Nat.le_of_ble_eq_true rfl) h (fun _ h9 => s_N_7 h9) (fun D_8 h => ?_)
  refine z_aload_n cx d_X5_become_92 93 rfl rfl 0 rfl ?_
  refine z_aload_n cx d_X5_become_93 94 rfl rfl 1 rfl ?_
  refine z_get cx d_X5_become_94 97 rfl e_K1 rfl zX5 8 (by decide) q_93 rfl rfl ?_
  refine y_put cx d_X5_become_97 100 rfl e_N rfl zX5 tyX5_ok nmX5 8 (by decide) q_93 rfl rfl rfl rfl (Nat.le_of_ble_eq_true rfl) h (fun _ h9 => s_N_8 h9) (fun D_9 h => ?_)
  subst hQ
  obtain rfl := Option.some.inj h
  exact z_vret cx d_X5_become_100 rfl
set_option maxHeartbeats 4000000 in
theorem tN_become_K1_N {l : Launch} {g : ZG} {X : ZB} {N : ZB} {T : ZB} {Rd : ZB} {Fr : ZB} {Ac : ZA} {Ch : ZB} {PS : ZB} {Ly : ZB} {Pa : ZQ} {OT : ZB} {Ea : ZB} {Ga : ZB} {Im0 : ZO} {Im1 : ZO} {La : ZB} {D : ZB} {r : ZB} (h : fN_become D N = some r) : zMv l yX5_become cX5_become 2 none zrN_become g [.ref (g.2.2 22), .ref (g.2.2 1)] (wX g X N T Rd Fr (Ac.1, ua Ac.2 1 D) Ch PS Ly Pa OT Ea Ga Im0 Im1 La) (wX g X N T Rd Fr (Ac.1, ua Ac.2 1 r) Ch PS Ly Pa OT Ea Ga Im0 Im1 La) := by
  unfold fN_become at h
  refine zMv_q (own := RX5) rfl (by decide +kernel) (Nat.le_of_ble_eq_true rfl) (lv := [(0, .ref (g.2.2 22)), (1, .ref (g.2.2 1))]) rfl ⟨rfl, rfl⟩ ?_
  intro p e s m args below meth c A Q hQ cx
  refine z_aload_n cx d_X5_become_0 1 rfl rfl 1 rfl ?_
  refine z_get cx d_X5_become_1 4 rfl e_N rfl zX5 0 (by decide) q_64 rfl rfl ?_
  refine y_iconst cx d_X5_become_4 5 rfl ?_
  refine z_aload_n cx d_X5_become_5 6 rfl rfl 0 rfl ?_
  refine z_get cx d_X5_become_6 9 rfl e_D1 rfl zX5 0 (by decide) q_64 rfl rfl ?_
  refine y_iconst cx d_X5_become_9 10 rfl ?_
  refine y_bipush cx d_X5_become_10 12 rfl (by decide) ?_
  refine y_copy cx d_X5_become_12 15 rfl q_515 q_517 q_516 q_44 e_N_first e_D1_first (by decide) (by decide) (Nat.le_of_ble_eq_true rfl) (Nat.le_of_ble_eq_true rfl) h (fun _ h9 => s_D1_first h9) (fun D_1 h => ?_)
  refine z_aload_n cx d_X5_become_15 16 rfl rfl 1 rfl ?_
  refine z_get cx d_X5_become_16 19 rfl e_N rfl zX5 1 (by decide) q_68 rfl rfl ?_
  refine y_iconst cx d_X5_become_19 20 rfl ?_
  refine z_aload_n cx d_X5_become_20 21 rfl rfl 0 rfl ?_
  refine z_get cx d_X5_become_21 24 rfl e_D1 rfl zX5 1 (by decide) q_68 rfl rfl ?_
  refine y_iconst cx d_X5_become_24 25 rfl ?_
  refine y_bipush cx d_X5_become_25 27 rfl (by decide) ?_
  refine y_copy cx d_X5_become_27 30 rfl q_515 q_517 q_516 q_44 e_N_second e_D1_second (by decide) (by decide) (Nat.le_of_ble_eq_true rfl) (Nat.le_of_ble_eq_true rfl) h (fun _ h9 => s_D1_second h9) (fun D_2 h => ?_)
  refine z_aload_n cx d_X5_become_30 31 rfl rfl 1 rfl ?_
  refine z_get cx d_X5_become_31 34 rfl e_N rfl zX5 2 (by decide) q_72 rfl rfl ?_
  refine y_iconst cx d_X5_become_34 35 rfl ?_
  refine z_aload_n cx d_X5_become_35 36 rfl rfl 0 rfl ?_
  refine z_get cx d_X5_become_36 39 rfl e_D1 rfl zX5 2 (by decide) q_72 rfl rfl ?_
  refine y_iconst cx d_X5_become_39 40 rfl ?_
  refine y_bipush cx d_X5_become_40 42 rfl (by decide) ?_
  refine y_copy cx d_X5_become_42 45 rfl q_515 q_517 q_516 q_44 e_N_weight e_D1_weight (by decide) (by decide) (Nat.le_of_ble_eq_true rfl) (Nat.le_of_ble_eq_true rfl) h (fun _ h9 => s_D1_weight h9) (fun D_3 h => ?_)
  refine z_aload_n cx d_X5_become_45 46 rfl rfl 1 rfl ?_
  refine z_get cx d_X5_become_46 49 rfl e_N rfl zX5 3 (by decide) q_74 rfl rfl ?_
  refine y_iconst cx d_X5_become_49 50 rfl ?_
  refine z_aload_n cx d_X5_become_50 51 rfl rfl 0 rfl ?_
  refine z_get cx d_X5_become_51 54 rfl e_D1 rfl zX5 3 (by decide) q_74 rfl rfl ?_
  refine y_iconst cx d_X5_become_54 55 rfl ?_
  refine y_bipush cx d_X5_become_55 57 rfl (by decide) ?_
  refine y_copy cx d_X5_become_57 60 rfl q_515 q_517 q_516 q_44 e_N_home e_D1_home (by decide) (by decide) (Nat.le_of_ble_eq_true rfl) (Nat.le_of_ble_eq_true rfl) h (fun _ h9 => s_D1_home h9) (fun D_4 h => ?_)
  refine z_aload_n cx d_X5_become_60 61 rfl rfl 0 rfl ?_
  refine z_aload_n cx d_X5_become_61 62 rfl rfl 1 rfl ?_
  refine z_get cx d_X5_become_62 65 rfl e_N rfl zX5 4 (by decide) q_78 rfl rfl ?_
  refine y_put cx d_X5_become_65 68 rfl e_D1 rfl zX5 tyX5_ok nmX5 4 (by decide) q_78 rfl rfl rfl rfl (Nat.le_of_ble_eq_true rfl) h (fun _ h9 => s_D1_4 h9) (fun D_5 h => ?_)
  refine z_aload_n cx d_X5_become_68 69 rfl rfl 0 rfl ?_
  refine z_aload_n cx d_X5_become_69 70 rfl rfl 1 rfl ?_
  refine z_get cx d_X5_become_70 73 rfl e_N rfl zX5 5 (by decide) q_84 rfl rfl ?_
  refine y_put cx d_X5_become_73 76 rfl e_D1 rfl zX5 tyX5_ok nmX5 5 (by decide) q_84 rfl rfl rfl rfl (Nat.le_of_ble_eq_true rfl) h (fun _ h9 => s_D1_5 h9) (fun D_6 h => ?_)
  refine z_aload_n cx d_X5_become_76 77 rfl rfl 0 rfl ?_
  refine z_aload_n cx d_X5_become_77 78 rfl rfl 1 rfl ?_
  refine z_get cx d_X5_become_78 81 rfl e_N rfl zX5 6 (by decide) q_88 rfl rfl ?_
  refine y_put cx d_X5_become_81 84 rfl e_D1 rfl zX5 tyX5_ok nmX5 6 (by decide) q_88 rfl rfl rfl rfl (Nat.le_of_ble_eq_true rfl) h (fun _ h9 => s_D1_6 h9) (fun D_7 h => ?_)
  refine z_aload_n cx d_X5_become_84 85 rfl rfl 0 rfl ?_
  refine z_aload_n cx d_X5_become_85 86 rfl rfl 1 rfl ?_
  refine z_get cx d_X5_become_86 89 rfl e_N rfl zX5 7 (by decide) q_92 rfl rfl ?_
  refine y_put cx d_X5_become_89 92 rfl e_D1 rfl zX5 tyX5_ok nmX5 7 (by decide) q_92 rfl rfl rfl rfl (Nat.le_of_ble_eq_true rfl) h (fun _ h9 => s_D1_7 h9) (fun D_8 h => ?_)
  refine z_aload_n cx d_X5_become_92 93 rfl rfl 0 rfl ?_
  refine z_aload_n cx d_X5_become_93 94 rfl rfl 1 rfl ?_
  refine z_get cx d_X5_become_94 97 rfl e_N rfl zX5 8 (by decide) q_93 rfl rfl ?_
  refine y_put cx d_X5_become_97 100 rfl e_D1 rfl zX5 tyX5_ok nmX5 8 (by decide) q_93 rfl rfl rfl rfl (Nat.le_of_ble_eq_true rfl) h (fun _ h9 => s_D1_8 h9) (fun D_9 h => ?_)
  subst hQ
  obtain rfl := Option.some.inj h
  exact z_vret cx d_X5_become_100 rfl
set_option maxHeartbeats 4000000 in
theorem tN_become_N_K2 {l : Launch} {g : ZG} {X : ZB} {N : ZB} {T : ZB} {Rd : ZB} {Fr : ZB} {Ac : ZA} {Ch : ZB} {PS : ZB} {Ly : ZB} {Pa : ZQ} {OT : ZB} {Ea : ZB} {Ga : ZB} {Im0 : ZO} {Im1 : ZO} {La : ZB} {r : ZB} (h : fN_become N (Ac.2 2) = some r) : zMv l yX5_become cX5_become 2 none zrN_become g [.ref (g.2.2 1), .ref (g.2.2 27)] (wX g X N T Rd Fr Ac Ch PS Ly Pa OT Ea Ga Im0 Im1 La) (wX g X r T Rd Fr Ac Ch PS Ly Pa OT Ea Ga Im0 Im1 La) := by
  unfold fN_become at h
  refine zMv_q (own := RX5) rfl (by decide +kernel) (Nat.le_of_ble_eq_true rfl) (lv := [(0, .ref (g.2.2 1)), (1, .ref (g.2.2 27))]) rfl ⟨rfl, rfl⟩ ?_
  intro p e s m args below meth c A Q hQ cx
  refine z_aload_n cx d_X5_become_0 1 rfl rfl 1 rfl ?_
  refine z_get cx d_X5_become_1 4 rfl e_K2 rfl zX5 0 (by decide) q_64 rfl rfl ?_
  refine y_iconst cx d_X5_become_4 5 rfl ?_
  refine z_aload_n cx d_X5_become_5 6 rfl rfl 0 rfl ?_
  refine z_get cx d_X5_become_6 9 rfl e_N rfl zX5 0 (by decide) q_64 rfl rfl ?_
  refine y_iconst cx d_X5_become_9 10 rfl ?_
  refine y_bipush cx d_X5_become_10 12 rfl (by decide) ?_
  refine y_copy cx d_X5_become_12 15 rfl q_515 q_517 q_516 q_44 e_K2_first e_N_first (by decide) (by decide) (Nat.le_of_ble_eq_true rfl) (Nat.le_of_ble_eq_true rfl) h (fun _ h9 => s_N_first h9) (fun D_1 h => ?_)
  refine z_aload_n cx d_X5_become_15 16 rfl rfl 1 rfl ?_
  refine z_get cx d_X5_become_16 19 rfl e_K2 rfl zX5 1 (by decide) q_68 rfl rfl ?_
  refine y_iconst cx d_X5_become_19 20 rfl ?_
  refine z_aload_n cx d_X5_become_20 21 rfl rfl 0 rfl ?_
  refine z_get cx d_X5_become_21 24 rfl e_N rfl zX5 1 (by decide) q_68 rfl rfl ?_
  refine y_iconst cx d_X5_become_24 25 rfl ?_
  refine y_bipush cx d_X5_become_25 27 rfl (by decide) ?_
  refine y_copy cx d_X5_become_27 30 rfl q_515 q_517 q_516 q_44 e_K2_second e_N_second (by decide) (by decide) (Nat.le_of_ble_eq_true rfl) (Nat.le_of_ble_eq_true rfl) h (fun _ h9 => s_N_second h9) (fun D_2 h => ?_)
  refine z_aload_n cx d_X5_become_30 31 rfl rfl 1 rfl ?_
  refine z_get cx d_X5_become_31 34 rfl e_K2 rfl zX5 2 (by decide) q_72 rfl rfl ?_
  refine y_iconst cx d_X5_become_34 35 rfl ?_
  refine z_aload_n cx d_X5_become_35 36 rfl rfl 0 rfl ?_
  refine z_get cx d_X5_become_36 39 rfl e_N rfl zX5 2 (by decide) q_72 rfl rfl ?_
  refine y_iconst cx d_X5_become_39 40 rfl ?_
  refine y_bipush cx d_X5_become_40 42 rfl (by decide) ?_
  refine y_copy cx d_X5_become_42 45 rfl q_515 q_517 q_516 q_44 e_K2_weight e_N_weight (by decide) (by decide) (Nat.le_of_ble_eq_true rfl) (Nat.le_of_ble_eq_true rfl) h (fun _ h9 => s_N_weight h9) (fun D_3 h => ?_)
  refine z_aload_n cx d_X5_become_45 46 rfl rfl 1 rfl ?_
  refine z_get cx d_X5_become_46 49 rfl e_K2 rfl zX5 3 (by decide) q_74 rfl rfl ?_
  refine y_iconst cx d_X5_become_49 50 rfl ?_
  refine z_aload_n cx d_X5_become_50 51 rfl rfl 0 rfl ?_
  refine z_get cx d_X5_become_51 54 rfl e_N rfl zX5 3 (by decide) q_74 rfl rfl ?_
  refine y_iconst cx d_X5_become_54 55 rfl ?_
  refine y_bipush cx d_X5_become_55 57 rfl (by decide) ?_
  refine y_copy cx d_X5_become_57 60 rfl q_515 q_517 q_516 q_44 e_K2_home e_N_home (by decide) (by decide) (Nat.le_of_ble_eq_true rfl) (Nat.le_of_ble_eq_true rfl) h (fun _ h9 => s_N_home h9) (fun D_4 h => ?_)
  refine z_aload_n cx d_X5_become_60 61 rfl rfl 0 rfl ?_
  refine z_aload_n cx d_X5_become_61 62 rfl rfl 1 rfl ?_
  refine z_get cx d_X5_become_62 65 rfl e_K2 rfl zX5 4 (by decide) q_78 rfl rfl ?_
  refine y_put cx d_X5_become_65 68 rfl e_N rfl zX5 tyX5_ok nmX5 4 (by decide) q_78 rfl rfl rfl rfl (Nat.le_of_ble_eq_true rfl) h (fun _ h9 => s_N_4 h9) (fun D_5 h => ?_)
  refine z_aload_n cx d_X5_become_68 69 rfl rfl 0 rfl ?_
  refine z_aload_n cx d_X5_become_69 70 rfl rfl 1 rfl ?_
  refine z_get cx d_X5_become_70 73 rfl e_K2 rfl zX5 5 (by decide) q_84 rfl rfl ?_
  refine y_put cx d_X5_become_73 76 rfl e_N rfl zX5 tyX5_ok nmX5 5 (by decide) q_84 rfl rfl rfl rfl (Nat.le_of_ble_eq_true rfl) h (fun _ h9 => s_N_5 h9) (fun D_6 h => ?_)
  refine z_aload_n cx d_X5_become_76 77 rfl rfl 0 rfl ?_
  refine z_aload_n cx d_X5_become_77 78 rfl rfl 1 rfl ?_
  refine z_get cx d_X5_become_78 81 rfl e_K2 rfl zX5 6 (by decide) q_88 rfl rfl ?_
  refine y_put cx d_X5_become_81 84 rfl e_N rfl zX5 tyX5_ok nmX5 6 (by decide) q_88 rfl rfl rfl rfl (Nat.le_of_ble_eq_true rfl) h (fun _ h9 => s_N_6 h9) (fun D_7 h => ?_)
  refine z_aload_n cx d_X5_become_84 85 rfl rfl 0 rfl ?_
  refine z_aload_n cx d_X5_become_85 86 rfl rfl 1 rfl ?_
  refine z_get cx d_X5_become_86 89 rfl e_K2 rfl zX5 7 (by decide) q_92 rfl rfl ?_
  refine y_put cx d_X5_become_89 92 rfl e_N rfl zX5 tyX5_ok nmX5 7 (by decide) q_92 rfl rfl rfl rfl (Nat.le_of_ble_eq_true rfl) h (fun _ h9 => s_N_7 h9) (fun D_8 h => ?_)
  refine z_aload_n cx d_X5_become_92 93 rfl rfl 0 rfl ?_
  refine z_aload_n cx d_X5_become_93 94 rfl rfl 1 rfl ?_
  refine z_get cx d_X5_become_94 97 rfl e_K2 rfl zX5 8 (by decide) q_93 rfl rfl ?_
  refine y_put cx d_X5_become_97 100 rfl e_N rfl zX5 tyX5_ok nmX5 8 (by decide) q_93 rfl rfl rfl rfl (Nat.le_of_ble_eq_true rfl) h (fun _ h9 => s_N_8 h9) (fun D_9 h => ?_)
  subst hQ
  obtain rfl := Option.some.inj h
  exact z_vret cx d_X5_become_100 rfl
set_option maxHeartbeats 4000000 in
theorem tN_become_K2_N {l : Launch} {g : ZG} {X : ZB} {N : ZB} {T : ZB} {Rd : ZB} {Fr : ZB} {Ac : ZA} {Ch : ZB} {PS : ZB} {Ly : ZB} {Pa : ZQ} {OT : ZB} {Ea : ZB} {Ga : ZB} {Im0 : ZO} {Im1 : ZO} {La : ZB} {D : ZB} {r : ZB} (h : fN_become D N = some r) : zMv l yX5_become cX5_become 2 none zrN_become g [.ref (g.2.2 27), .ref (g.2.2 1)] (wX g X N T Rd Fr (Ac.1, ua Ac.2 2 D) Ch PS Ly Pa OT Ea Ga Im0 Im1 La) (wX g X N T Rd Fr (Ac.1, ua Ac.2 2 r) Ch PS Ly Pa OT Ea Ga Im0 Im1 La) := by
  unfold fN_become at h
  refine zMv_q (own := RX5) rfl (by decide +kernel) (Nat.le_of_ble_eq_true rfl) (lv := [(0, .ref (g.2.2 27)), (1, .ref (g.2.2 1))]) rfl ⟨rfl, rfl⟩ ?_
  intro p e s m args below meth c A Q hQ cx
  refine z_aload_n cx d_X5_become_0 1 rfl rfl 1 rfl ?_
  refine z_get cx d_X5_become_1 4 rfl e_N rfl zX5 0 (by decide) q_64 rfl rfl ?_
  refine y_iconst cx d_X5_become_4 5 rfl ?_
  refine z_aload_n cx d_X5_become_5 6 rfl rfl 0 rfl ?_
  refine z_get cx d_X5_become_6 9 rfl e_D2 rfl zX5 0 (by decide) q_64 rfl rfl ?_
  refine y_iconst cx d_X5_become_9 10 rfl ?_
  refine y_bipush cx d_X5_become_10 12 rfl (by decide) ?_
  refine y_copy cx d_X5_become_12 15 rfl q_515 q_517 q_516 q_44 e_N_first e_D2_first (by decide) (by decide) (Nat.le_of_ble_eq_true rfl) (Nat.le_of_ble_eq_true rfl) h (fun _ h9 => s_D2_first h9) (fun D_1 h => ?_)
  refine z_aload_n cx d_X5_become_15 16 rfl rfl 1 rfl ?_
  refine z_get cx d_X5_become_16 19 rfl e_N rfl zX5 1 (by decide) q_68 rfl rfl ?_
  refine y_iconst cx d_X5_become_19 20 rfl ?_
  refine z_aload_n cx d_X5_become_20 21 rfl rfl 0 rfl ?_
  refine z_get cx d_X5_become_21 24 rfl e_D2 rfl zX5 1 (by decide) q_68 rfl rfl ?_
  refine y_iconst cx d_X5_become_24 25 rfl ?_
  refine y_bipush cx d_X5_become_25 27 rfl (by decide) ?_
  refine y_copy cx d_X5_become_27 30 rfl q_515 q_517 q_516 q_44 e_N_second e_D2_second (by decide) (by decide) (Nat.le_of_ble_eq_true rfl) (Nat.le_of_ble_eq_true rfl) h (fun _ h9 => s_D2_second h9) (fun D_2 h => ?_)
  refine z_aload_n cx d_X5_become_30 31 rfl rfl 1 rfl ?_
  refine z_get cx d_X5_become_31 34 rfl e_N rfl zX5 2 (by decide) q_72 rfl rfl ?_
  refine y_iconst cx d_X5_become_34 35 rfl ?_
  refine z_aload_n cx d_X5_become_35 36 rfl rfl 0 rfl ?_
  refine z_get cx d_X5_become_36 39 rfl e_D2 rfl zX5 2 (by decide) q_72 rfl rfl ?_
  refine y_iconst cx d_X5_become_39 40 rfl ?_
  refine y_bipush cx d_X5_become_40 42 rfl (by decide) ?_
  refine y_copy cx d_X5_become_42 45 rfl q_515 q_517 q_516 q_44 e_N_weight e_D2_weight (by decide) (by decide) (Nat.le_of_ble_eq_true rfl) (Nat.le_of_ble_eq_true rfl) h (fun _ h9 => s_D2_weight h9) (fun D_3 h => ?_)
  refine z_aload_n cx d_X5_become_45 46 rfl rfl 1 rfl ?_
  refine z_get cx d_X5_become_46 49 rfl e_N rfl zX5 3 (by decide) q_74 rfl rfl ?_
  refine y_iconst cx d_X5_become_49 50 rfl ?_
  refine z_aload_n cx d_X5_become_50 51 rfl rfl 0 rfl ?_
  refine z_get cx d_X5_become_51 54 rfl e_D2 rfl zX5 3 (by decide) q_74 rfl rfl ?_
  refine y_iconst cx d_X5_become_54 55 rfl ?_
  refine y_bipush cx d_X5_become_55 57 rfl (by decide) ?_
  refine y_copy cx d_X5_become_57 60 rfl q_515 q_517 q_516 q_44 e_N_home e_D2_home (by decide) (by decide) (Nat.le_of_ble_eq_true rfl) (Nat.le_of_ble_eq_true rfl) h (fun _ h9 => s_D2_home h9) (fun D_4 h => ?_)
  refine z_aload_n cx d_X5_become_60 61 rfl rfl 0 rfl ?_
  refine z_aload_n cx d_X5_become_61 62 rfl rfl 1 rfl ?_
  refine z_get cx d_X5_become_62 65 rfl e_N rfl zX5 4 (by decide) q_78 rfl rfl ?_
  refine y_put cx d_X5_become_65 68 rfl e_D2 rfl zX5 tyX5_ok nmX5 4 (by decide) q_78 rfl rfl rfl rfl (Nat.le_of_ble_eq_true rfl) h (fun _ h9 => s_D2_4 h9) (fun D_5 h => ?_)
  refine z_aload_n cx d_X5_become_68 69 rfl rfl 0 rfl ?_
  refine z_aload_n cx d_X5_become_69 70 rfl rfl 1 rfl ?_
  refine z_get cx d_X5_become_70 73 rfl e_N rfl zX5 5 (by decide) q_84 rfl rfl ?_
  refine y_put cx d_X5_become_73 76 rfl e_D2 rfl zX5 tyX5_ok nmX5 5 (by decide) q_84 rfl rfl rfl rfl (Nat.le_of_ble_eq_true rfl) h (fun _ h9 => s_D2_5 h9) (fun D_6 h => ?_)
  refine z_aload_n cx d_X5_become_76 77 rfl rfl 0 rfl ?_
  refine z_aload_n cx d_X5_become_77 78 rfl rfl 1 rfl ?_
  refine z_get cx d_X5_become_78 81 rfl e_N rfl zX5 6 (by decide) q_88 rfl rfl ?_
  refine y_put cx d_X5_become_81 84 rfl e_D2 rfl zX5 tyX5_ok nmX5 6 (by decide) q_88 rfl rfl rfl rfl (Nat.le_of_ble_eq_true rfl) h (fun _ h9 => s_D2_6 h9) (fun D_7 h => ?_)
  refine z_aload_n cx d_X5_become_84 85 rfl rfl 0 rfl ?_
  refine z_aload_n cx d_X5_become_85 86 rfl rfl 1 rfl ?_
  refine z_get cx d_X5_become_86 89 rfl e_N rfl zX5 7 (by decide) q_92 rfl rfl ?_
  refine y_put cx d_X5_become_89 92 rfl e_D2 rfl zX5 tyX5_ok nmX5 7 (by decide) q_92 rfl rfl rfl rfl (Nat.le_of_ble_eq_true rfl) h (fun _ h9 => s_D2_7 h9) (fun D_8 h => ?_)
  refine z_aload_n cx d_X5_become_92 93 rfl rfl 0 rfl ?_
  refine z_aload_n cx d_X5_become_93 94 rfl rfl 1 rfl ?_
  refine z_get cx d_X5_become_94 97 rfl e_N rfl zX5 8 (by decide) q_93 rfl rfl ?_
  refine y_put cx d_X5_become_97 100 rfl e_D2 rfl zX5 tyX5_ok nmX5 8 (by decide) q_93 rfl rfl rfl rfl (Nat.le_of_ble_eq_true rfl) h (fun _ h9 => s_D2_8 h9) (fun D_9 h => ?_)
  subst hQ
  obtain rfl := Option.some.inj h
  exact z_vret cx d_X5_become_100 rfl
set_option maxHeartbeats 4000000 in
theorem tN_become_N_K3 {l : Launch} {g : ZG} {X : ZB} {N : ZB} {T : ZB} {Rd : ZB} {Fr : ZB} {Ac : ZA} {Ch : ZB} {PS : ZB} {Ly : ZB} {Pa : ZQ} {OT : ZB} {Ea : ZB} {Ga : ZB} {Im0 : ZO} {Im1 : ZO} {La : ZB} {r : ZB} (h : fN_become N (Ac.2 3) = some r) : zMv l yX5_become cX5_become 2 none zrN_become g [.ref (g.2.2 1), .ref (g.2.2 32)] (wX g X N T Rd Fr Ac Ch PS Ly Pa OT Ea Ga Im0 Im1 La) (wX g X r T Rd Fr Ac Ch PS Ly Pa OT Ea Ga Im0 Im1 La) := by
  unfold fN_become at h
  refine zMv_q (own := RX5) rfl (by decide +kernel) (Nat.le_of_ble_eq_true rfl) (lv := [(0, .ref (g.2.2 1)), (1, .ref (g.2.2 32))]) rfl ⟨rfl, rfl⟩ ?_
  intro p e s m args below meth c A Q hQ cx
  refine z_aload_n cx d_X5_become_0 1 rfl rfl 1 rfl ?_
  refine z_get cx d_X5_become_1 4 rfl e_K3 rfl zX5 0 (by decide) q_64 rfl rfl ?_
  refine y_iconst cx d_X5_become_4 5 rfl ?_
  refine z_aload_n cx d_X5_become_5 6 rfl rfl 0 rfl ?_
  refine z_get cx d_X5_become_6 9 rfl e_N rfl zX5 0 (by decide) q_64 rfl rfl ?_
  refine y_iconst cx d_X5_become_9 10 rfl ?_
  refine y_bipush cx d_X5_become_10 12 rfl (by decide) ?_
  refine y_copy cx d_X5_become_12 15 rfl q_515 q_517 q_516 q_44 e_K3_first e_N_first (by decide) (by decide) (Nat.le_of_ble_eq_true rfl) (Nat.le_of_ble_eq_true rfl) h (fun _ h9 => s_N_first h9) (fun D_1 h => ?_)
  refine z_aload_n cx d_X5_become_15 16 rfl rfl 1 rfl ?_
  refine z_get cx d_X5_become_16 19 rfl e_K3 rfl zX5 1 (by decide) q_68 rfl rfl ?_
  refine y_iconst cx d_X5_become_19 20 rfl ?_
  refine z_aload_n cx d_X5_become_20 21 rfl rfl 0 rfl ?_
  refine z_get cx d_X5_become_21 24 rfl e_N rfl zX5 1 (by decide) q_68 rfl rfl ?_
  refine y_iconst cx d_X5_become_24 25 rfl ?_
  refine y_bipush cx d_X5_become_25 27 rfl (by decide) ?_
  refine y_copy cx d_X5_become_27 30 rfl q_515 q_517 q_516 q_44 e_K3_second e_N_second (by decide) (by decide) (Nat.le_of_ble_eq_true rfl) (Nat.le_of_ble_eq_true rfl) h (fun _ h9 => s_N_second h9) (fun D_2 h => ?_)
  refine z_aload_n cx d_X5_become_30 31 rfl rfl 1 rfl ?_
  refine z_get cx d_X5_become_31 34 rfl e_K3 rfl zX5 2 (by decide) q_72 rfl rfl ?_
  refine y_iconst cx d_X5_become_34 35 rfl ?_
  refine z_aload_n cx d_X5_become_35 36 rfl rfl 0 rfl ?_
  refine z_get cx d_X5_become_36 39 rfl e_N rfl zX5 2 (by decide) q_72 rfl rfl ?_
  refine y_iconst cx d_X5_become_39 40 rfl ?_
  refine y_bipush cx d_X5_become_40 42 rfl (by decide) ?_
  refine y_copy cx d_X5_become_42 45 rfl q_515 q_517 q_516 q_44 e_K3_weight e_N_weight (by decide) (by decide) (Nat.le_of_ble_eq_true rfl) (Nat.le_of_ble_eq_true rfl) h (fun _ h9 => s_N_weight h9) (fun D_3 h => ?_)
  refine z_aload_n cx d_X5_become_45 46 rfl rfl 1 rfl ?_
  refine z_get cx d_X5_become_46 49 rfl e_K3 rfl zX5 3 (by decide) q_74 rfl rfl ?_
  refine y_iconst cx d_X5_become_49 50 rfl ?_
  refine z_aload_n cx d_X5_become_50 51 rfl rfl 0 rfl ?_
  refine z_get cx d_X5_become_51 54 rfl e_N rfl zX5 3 (by decide) q_74 rfl rfl ?_
  refine y_iconst cx d_X5_become_54 55 rfl ?_
  refine y_bipush cx d_X5_become_55 57 rfl (by decide) ?_
  refine y_copy cx d_X5_become_57 60 rfl q_515 q_517 q_516 q_44 e_K3_home e_N_home (by decide) (by decide) (Nat.le_of_ble_eq_true rfl) (Nat.le_of_ble_eq_true rfl) h (fun _ h9 => s_N_home h9) (fun D_4 h => ?_)
  refine z_aload_n cx d_X5_become_60 61 rfl rfl 0 rfl ?_
  refine z_aload_n cx d_X5_become_61 62 rfl rfl 1 rfl ?_
  refine z_get cx d_X5_become_62 65 rfl e_K3 rfl zX5 4 (by decide) q_78 rfl rfl ?_
  refine y_put cx d_X5_become_65 68 rfl e_N rfl zX5 tyX5_ok nmX5 4 (by decide) q_78 rfl rfl rfl rfl (Nat.le_of_ble_eq_true rfl) h (fun _ h9 => s_N_4 h9) (fun D_5 h => ?_)
  refine z_aload_n cx d_X5_become_68 69 rfl rfl 0 rfl ?_
  refine z_aload_n cx d_X5_become_69 70 rfl rfl 1 rfl ?_
  refine z_get cx d_X5_become_70 73 rfl e_K3 rfl zX5 5 (by decide) q_84 rfl rfl ?_
  refine y_put cx d_X5_become_73 76 rfl e_N rfl zX5 tyX5_ok nmX5 5 (by decide) q_84 rfl rfl rfl rfl (Nat.le_of_ble_eq_true rfl) h (fun _ h9 => s_N_5 h9) (fun D_6 h => ?_)
  refine z_aload_n cx d_X5_become_76 77 rfl rfl 0 rfl ?_
  refine z_aload_n cx d_X5_become_77 78 rfl rfl 1 rfl ?_
  refine z_get cx d_X5_become_78 81 rfl e_K3 rfl zX5 6 (by decide) q_88 rfl rfl ?_
  refine y_put cx d_X5_become_81 84 rfl e_N rfl zX5 tyX5_ok nmX5 6 (by decide) q_88 rfl rfl rfl rfl (Nat.le_of_ble_eq_true rfl) h (fun _ h9 => s_N_6 h9) (fun D_7 h => ?_)
  refine z_aload_n cx d_X5_become_84 85 rfl rfl 0 rfl ?_
  refine z_aload_n cx d_X5_become_85 86 rfl rfl 1 rfl ?_
  refine z_get cx d_X5_become_86 89 rfl e_K3 rfl zX5 7 (by decide) q_92 rfl rfl ?_
  refine y_put cx d_X5_become_89 92 rfl e_N rfl zX5 tyX5_ok nmX5 7 (by decide) q_92 rfl rfl rfl rfl (Nat.le_of_ble_eq_true rfl) h (fun _ h9 => s_N_7 h9) (fun D_8 h => ?_)
  refine z_aload_n cx d_X5_become_92 93 rfl rfl 0 rfl ?_
  refine z_aload_n cx d_X5_become_93 94 rfl rfl 1 rfl ?_
  refine z_get cx d_X5_become_94 97 rfl e_K3 rfl zX5 8 (by decide) q_93 rfl rfl ?_
  refine y_put cx d_X5_become_97 100 rfl e_N rfl zX5 tyX5_ok nmX5 8 (by decide) q_93 rfl rfl rfl rfl (Nat.le_of_ble_eq_true rfl) h (fun _ h9 => s_N_8 h9) (fun D_9 h => ?_)
  subst hQ
  obtain rfl := Option.some.inj h
  exact z_vret cx d_X5_become_100 rfl
set_option maxHeartbeats 4000000 in
theorem tN_become_K3_N {l : Launch} {g : ZG} {X : ZB} {N : ZB} {T : ZB} {Rd : ZB} {Fr : ZB} {Ac : ZA} {Ch : ZB} {PS : ZB} {Ly : ZB} {Pa : ZQ} {OT : ZB} {Ea : ZB} {Ga : ZB} {Im0 : ZO} {Im1 : ZO} {La : ZB} {D : ZB} {r : ZB} (h : fN_become D N = some r) : zMv l yX5_become cX5_become 2 none zrN_become g [.ref (g.2.2 32), .ref (g.2.2 1)] (wX g X N T Rd Fr (Ac.1, ua Ac.2 3 D) Ch PS Ly Pa OT Ea Ga Im0 Im1 La) (wX g X N T Rd Fr (Ac.1, ua Ac.2 3 r) Ch PS Ly Pa OT Ea Ga Im0 Im1 La) := by
  unfold fN_become at h
  refine zMv_q (own := RX5) rfl (by decide +kernel) (Nat.le_of_ble_eq_true rfl) (lv := [(0, .ref (g.2.2 32)), (1, .ref (g.2.2 1))]) rfl ⟨rfl, rfl⟩ ?_
  intro p e s m args below meth c A Q hQ cx
  refine z_aload_n cx d_X5_become_0 1 rfl rfl 1 rfl ?_
  refine z_get cx d_X5_become_1 4 rfl e_N rfl zX5 0 (by decide) q_64 rfl rfl ?_
  refine y_iconst cx d_X5_become_4 5 rfl ?_
  refine z_aload_n cx d_X5_become_5 6 rfl rfl 0 rfl ?_
  refine z_get cx d_X5_become_6 9 rfl e_D3 rfl zX5 0 (by decide) q_64 rfl rfl ?_
  refine y_iconst cx d_X5_become_9 10 rfl ?_
  refine y_bipush cx d_X5_become_10 12 rfl (by decide) ?_
  refine y_copy cx d_X5_become_12 15 rfl q_515 q_517 q_516 q_44 e_N_first e_D3_first (by decide) (by decide) (Nat.le_of_ble_eq_true rfl) (Nat.le_of_ble_eq_true rfl) h (fun _ h9 => s_D3_first h9) (fun D_1 h => ?_)
  refine z_aload_n cx d_X5_become_15 16 rfl rfl 1 rfl ?_
  refine z_get cx d_X5_become_16 19 rfl e_N rfl zX5 1 (by decide) q_68 rfl rfl ?_
  refine y_iconst cx d_X5_become_19 20 rfl ?_
  refine z_aload_n cx d_X5_become_20 21 rfl rfl 0 rfl ?_
  refine z_get cx d_X5_become_21 24 rfl e_D3 rfl zX5 1 (by decide) q_68 rfl rfl ?_
  refine y_iconst cx d_X5_become_24 25 rfl ?_
  refine y_bipush cx d_X5_become_25 27 rfl (by decide) ?_
  refine y_copy cx d_X5_become_27 30 rfl q_515 q_517 q_516 q_44 e_N_second e_D3_second (by decide) (by decide) (Nat.le_of_ble_eq_true rfl) (Nat.le_of_ble_eq_true rfl) h (fun _ h9 => s_D3_second h9) (fun D_2 h => ?_)
  refine z_aload_n cx d_X5_become_30 31 rfl rfl 1 rfl ?_
  refine z_get cx d_X5_become_31 34 rfl e_N rfl zX5 2 (by decide) q_72 rfl rfl ?_
  refine y_iconst cx d_X5_become_34 35 rfl ?_
  refine z_aload_n cx d_X5_become_35 36 rfl rfl 0 rfl ?_
  refine z_get cx d_X5_become_36 39 rfl e_D3 rfl zX5 2 (by decide) q_72 rfl rfl ?_
  refine y_iconst cx d_X5_become_39 40 rfl ?_
  refine y_bipush cx d_X5_become_40 42 rfl (by decide) ?_
  refine y_copy cx d_X5_become_42 45 rfl q_515 q_517 q_516 q_44 e_N_weight e_D3_weight (by decide) (by decide) (Nat.le_of_ble_eq_true rfl) (Nat.le_of_ble_eq_true rfl) h (fun _ h9 => s_D3_weight h9) (fun D_3 h => ?_)
  refine z_aload_n cx d_X5_become_45 46 rfl rfl 1 rfl ?_
  refine z_get cx d_X5_become_46 49 rfl e_N rfl zX5 3 (by decide) q_74 rfl rfl ?_
  refine y_iconst cx d_X5_become_49 50 rfl ?_
  refine z_aload_n cx d_X5_become_50 51 rfl rfl 0 rfl ?_
  refine z_get cx d_X5_become_51 54 rfl e_D3 rfl zX5 3 (by decide) q_74 rfl rfl ?_
  refine y_iconst cx d_X5_become_54 55 rfl ?_
  refine y_bipush cx d_X5_become_55 57 rfl (by decide) ?_
  refine y_copy cx d_X5_become_57 60 rfl q_515 q_517 q_516 q_44 e_N_home e_D3_home (by decide) (by decide) (Nat.le_of_ble_eq_true rfl) (Nat.le_of_ble_eq_true rfl) h (fun _ h9 => s_D3_home h9) (fun D_4 h => ?_)
  refine z_aload_n cx d_X5_become_60 61 rfl rfl 0 rfl ?_
  refine z_aload_n cx d_X5_become_61 62 rfl rfl 1 rfl ?_
  refine z_get cx d_X5_become_62 65 rfl e_N rfl zX5 4 (by decide) q_78 rfl rfl ?_
  refine y_put cx d_X5_become_65 68 rfl e_D3 rfl zX5 tyX5_ok nmX5 4 (by decide) q_78 rfl rfl rfl rfl (Nat.le_of_ble_eq_true rfl) h (fun _ h9 => s_D3_4 h9) (fun D_5 h => ?_)
  refine z_aload_n cx d_X5_become_68 69 rfl rfl 0 rfl ?_
  refine z_aload_n cx d_X5_become_69 70 rfl rfl 1 rfl ?_
  refine z_get cx d_X5_become_70 73 rfl e_N rfl zX5 5 (by decide) q_84 rfl rfl ?_
  refine y_put cx d_X5_become_73 76 rfl e_D3 rfl zX5 tyX5_ok nmX5 5 (by decide) q_84 rfl rfl rfl rfl (Nat.le_of_ble_eq_true rfl) h (fun _ h9 => s_D3_5 h9) (fun D_6 h => ?_)
  refine z_aload_n cx d_X5_become_76 77 rfl rfl 0 rfl ?_
  refine z_aload_n cx d_X5_become_77 78 rfl rfl 1 rfl ?_
  refine z_get cx d_X5_become_78 81 rfl e_N rfl zX5 6 (by decide) q_88 rfl rfl ?_
  refine y_put cx d_X5_become_81 84 rfl e_D3 rfl zX5 tyX5_ok nmX5 6 (by decide) q_88 rfl rfl rfl rfl (Nat.le_of_ble_eq_true rfl) h (fun _ h9 => s_D3_6 h9) (fun D_7 h => ?_)
  refine z_aload_n cx d_X5_become_84 85 rfl rfl 0 rfl ?_
  refine z_aload_n cx d_X5_become_85 86 rfl rfl 1 rfl ?_
  refine z_get cx d_X5_become_86 89 rfl e_N rfl zX5 7 (by decide) q_92 rfl rfl ?_
  refine y_put cx d_X5_become_89 92 rfl e_D3 rfl zX5 tyX5_ok nmX5 7 (by decide) q_92 rfl rfl rfl rfl (Nat.le_of_ble_eq_true rfl) h (fun _ h9 => s_D3_7 h9) (fun D_8 h => ?_)
  refine z_aload_n cx d_X5_become_92 93 rfl rfl 0 rfl ?_
  refine z_aload_n cx d_X5_become_93 94 rfl rfl 1 rfl ?_
  refine z_get cx d_X5_become_94 97 rfl e_N rfl zX5 8 (by decide) q_93 rfl rfl ?_
  refine y_put cx d_X5_become_97 100 rfl e_D3 rfl zX5 tyX5_ok nmX5 8 (by decide) q_93 rfl rfl rfl rfl (Nat.le_of_ble_eq_true rfl) h (fun _ h9 => s_D3_8 h9) (fun D_9 h => ?_)
  subst hQ
  obtain rfl := Option.some.inj h
  exact z_vret cx d_X5_become_100 rfl
set_option maxHeartbeats 4000000 in
theorem tN_become_N_K4 {l : Launch} {g : ZG} {X : ZB} {N : ZB} {T : ZB} {Rd : ZB} {Fr : ZB} {Ac : ZA} {Ch : ZB} {PS : ZB} {Ly : ZB} {Pa : ZQ} {OT : ZB} {Ea : ZB} {Ga : ZB} {Im0 : ZO} {Im1 : ZO} {La : ZB} {r : ZB} (h : fN_become N (Ac.2 4) = some r) : zMv l yX5_become cX5_become 2 none zrN_become g [.ref (g.2.2 1), .ref (g.2.2 37)] (wX g X N T Rd Fr Ac Ch PS Ly Pa OT Ea Ga Im0 Im1 La) (wX g X r T Rd Fr Ac Ch PS Ly Pa OT Ea Ga Im0 Im1 La) := by
  unfold fN_become at h
  refine zMv_q (own := RX5) rfl (by decide +kernel) (Nat.le_of_ble_eq_true rfl) (lv := [(0, .ref (g.2.2 1)), (1, .ref (g.2.2 37))]) rfl ⟨rfl, rfl⟩ ?_
  intro p e s m args below meth c A Q hQ cx
  refine z_aload_n cx d_X5_become_0 1 rfl rfl 1 rfl ?_
  refine z_get cx d_X5_become_1 4 rfl e_K4 rfl zX5 0 (by decide) q_64 rfl rfl ?_
  refine y_iconst cx d_X5_become_4 5 rfl ?_
  refine z_aload_n cx d_X5_become_5 6 rfl rfl 0 rfl ?_
  refine z_get cx d_X5_become_6 9 rfl e_N rfl zX5 0 (by decide) q_64 rfl rfl ?_
  refine y_iconst cx d_X5_become_9 10 rfl ?_
  refine y_bipush cx d_X5_become_10 12 rfl (by decide) ?_
  refine y_copy cx d_X5_become_12 15 rfl q_515 q_517 q_516 q_44 e_K4_first e_N_first (by decide) (by decide) (Nat.le_of_ble_eq_true rfl) (Nat.le_of_ble_eq_true rfl) h (fun _ h9 => s_N_first h9) (fun D_1 h => ?_)
  refine z_aload_n cx d_X5_become_15 16 rfl rfl 1 rfl ?_
  refine z_get cx d_X5_become_16 19 rfl e_K4 rfl zX5 1 (by decide) q_68 rfl rfl ?_
  refine y_iconst cx d_X5_become_19 20 rfl ?_
  refine z_aload_n cx d_X5_become_20 21 rfl rfl 0 rfl ?_
  refine z_get cx d_X5_become_21 24 rfl e_N rfl zX5 1 (by decide) q_68 rfl rfl ?_
  refine y_iconst cx d_X5_become_24 25 rfl ?_
  refine y_bipush cx d_X5_become_25 27 rfl (by decide) ?_
  refine y_copy cx d_X5_become_27 30 rfl q_515 q_517 q_516 q_44 e_K4_second e_N_second (by decide) (by decide) (Nat.le_of_ble_eq_true rfl) (Nat.le_of_ble_eq_true rfl) h (fun _ h9 => s_N_second h9) (fun D_2 h => ?_)
  refine z_aload_n cx d_X5_become_30 31 rfl rfl 1 rfl ?_
  refine z_get cx d_X5_become_31 34 rfl e_K4 rfl zX5 2 (by decide) q_72 rfl rfl ?_
  refine y_iconst cx d_X5_become_34 35 rfl ?_
  refine z_aload_n cx d_X5_become_35 36 rfl rfl 0 rfl ?_
  refine z_get cx d_X5_become_36 39 rfl e_N rfl zX5 2 (by decide) q_72 rfl rfl ?_
  refine y_iconst cx d_X5_become_39 40 rfl ?_
  refine y_bipush cx d_X5_become_40 42 rfl (by decide) ?_
  refine y_copy cx d_X5_become_42 45 rfl q_515 q_517 q_516 q_44 e_K4_weight e_N_weight (by decide) (by decide) (Nat.le_of_ble_eq_true rfl) (Nat.le_of_ble_eq_true rfl) h (fun _ h9 => s_N_weight h9) (fun D_3 h => ?_)
  refine z_aload_n cx d_X5_become_45 46 rfl rfl 1 rfl ?_
  refine z_get cx d_X5_become_46 49 rfl e_K4 rfl zX5 3 (by decide) q_74 rfl rfl ?_
  refine y_iconst cx d_X5_become_49 50 rfl ?_
  refine z_aload_n cx d_X5_become_50 51 rfl rfl 0 rfl ?_
  refine z_get cx d_X5_become_51 54 rfl e_N rfl zX5 3 (by decide) q_74 rfl rfl ?_
  refine y_iconst cx d_X5_become_54 55 rfl ?_
  refine y_bipush cx d_X5_become_55 57 rfl (by decide) ?_
  refine y_copy cx d_X5_become_57 60 rfl q_515 q_517 q_516 q_44 e_K4_home e_N_home (by decide) (by decide) (Nat.le_of_ble_eq_true rfl) (Nat.le_of_ble_eq_true rfl) h (fun _ h9 => s_N_home h9) (fun D_4 h => ?_)
  refine z_aload_n cx d_X5_become_60 61 rfl rfl 0 rfl ?_
  refine z_aload_n cx d_X5_become_61 62 rfl rfl 1 rfl ?_
  refine z_get cx d_X5_become_62 65 rfl e_K4 rfl zX5 4 (by decide) q_78 rfl rfl ?_
  refine y_put cx d_X5_become_65 68 rfl e_N rfl zX5 tyX5_ok nmX5 4 (by decide) q_78 rfl rfl rfl rfl (Nat.le_of_ble_eq_true rfl) h (fun _ h9 => s_N_4 h9) (fun D_5 h => ?_)
  refine z_aload_n cx d_X5_become_68 69 rfl rfl 0 rfl ?_
  refine z_aload_n cx d_X5_become_69 70 rfl rfl 1 rfl ?_
  refine z_get cx d_X5_become_70 73 rfl e_K4 rfl zX5 5 (by decide) q_84 rfl rfl ?_
  refine y_put cx d_X5_become_73 76 rfl e_N rfl zX5 tyX5_ok nmX5 5 (by decide) q_84 rfl rfl rfl rfl (Nat.le_of_ble_eq_true rfl) h (fun _ h9 => s_N_5 h9) (fun D_6 h => ?_)
  refine z_aload_n cx d_X5_become_76 77 rfl rfl 0 rfl ?_
  refine z_aload_n cx d_X5_become_77 78 rfl rfl 1 rfl ?_
  refine z_get cx d_X5_become_78 81 rfl e_K4 rfl zX5 6 (by decide) q_88 rfl rfl ?_
  refine y_put cx d_X5_become_81 84 rfl e_N rfl zX5 tyX5_ok nmX5 6 (by decide) q_88 rfl rfl rfl rfl (Nat.le_of_ble_eq_true rfl) h (fun _ h9 => s_N_6 h9) (fun D_7 h => ?_)
  refine z_aload_n cx d_X5_become_84 85 rfl rfl 0 rfl ?_
  refine z_aload_n cx d_X5_become_85 86 rfl rfl 1 rfl ?_
  refine z_get cx d_X5_become_86 89 rfl e_K4 rfl zX5 7 (by decide) q_92 rfl rfl ?_
  refine y_put cx d_X5_become_89 92 rfl e_N rfl zX5 tyX5_ok nmX5 7 (by decide) q_92 rfl rfl rfl rfl (Nat.le_of_ble_eq_true rfl) h (fun _ h9 => s_N_7 h9) (fun D_8 h => ?_)
  refine z_aload_n cx d_X5_become_92 93 rfl rfl 0 rfl ?_
  refine z_aload_n cx d_X5_become_93 94 rfl rfl 1 rfl ?_
  refine z_get cx d_X5_become_94 97 rfl e_K4 rfl zX5 8 (by decide) q_93 rfl rfl ?_
  refine y_put cx d_X5_become_97 100 rfl e_N rfl zX5 tyX5_ok nmX5 8 (by decide) q_93 rfl rfl rfl rfl (Nat.le_of_ble_eq_true rfl) h (fun _ h9 => s_N_8 h9) (fun D_9 h => ?_)
  subst hQ
  obtain rfl := Option.some.inj h
  exact z_vret cx d_X5_become_100 rfl
set_option maxHeartbeats 4000000 in
theorem tN_become_K4_N {l : Launch} {g : ZG} {X : ZB} {N : ZB} {T : ZB} {Rd : ZB} {Fr : ZB} {Ac : ZA} {Ch : ZB} {PS : ZB} {Ly : ZB} {Pa : ZQ} {OT : ZB} {Ea : ZB} {Ga : ZB} {Im0 : ZO} {Im1 : ZO} {La : ZB} {D : ZB} {r : ZB} (h : fN_become D N = some r) : zMv l yX5_become cX5_become 2 none zrN_become g [.ref (g.2.2 37), .ref (g.2.2 1)] (wX g X N T Rd Fr (Ac.1, ua Ac.2 4 D) Ch PS Ly Pa OT Ea Ga Im0 Im1 La) (wX g X N T Rd Fr (Ac.1, ua Ac.2 4 r) Ch PS Ly Pa OT Ea Ga Im0 Im1 La) := by
  unfold fN_become at h
  refine zMv_q (own := RX5) rfl (by decide +kernel) (Nat.le_of_ble_eq_true rfl) (lv := [(0, .ref (g.2.2 37)), (1, .ref (g.2.2 1))]) rfl ⟨rfl, rfl⟩ ?_
  intro p e s m args below meth c A Q hQ cx
  refine z_aload_n cx d_X5_become_0 1 rfl rfl 1 rfl ?_
  refine z_get cx d_X5_become_1 4 rfl e_N rfl zX5 0 (by decide) q_64 rfl rfl ?_
  refine y_iconst cx d_X5_become_4 5 rfl ?_
  refine z_aload_n cx d_X5_become_5 6 rfl rfl 0 rfl ?_
  refine z_get cx d_X5_become_6 9 rfl e_D4 rfl zX5 0 (by decide) q_64 rfl rfl ?_
  refine y_iconst cx d_X5_become_9 10 rfl ?_
  refine y_bipush cx d_X5_become_10 12 rfl (by decide) ?_
  refine y_copy cx d_X5_become_12 15 rfl q_515 q_517 q_516 q_44 e_N_first e_D4_first (by decide) (by decide) (Nat.le_of_ble_eq_true rfl) (Nat.le_of_ble_eq_true rfl) h (fun _ h9 => s_D4_first h9) (fun D_1 h => ?_)
  refine z_aload_n cx d_X5_become_15 16 rfl rfl 1 rfl ?_
  refine z_get cx d_X5_become_16 19 rfl e_N rfl zX5 1 (by decide) q_68 rfl rfl ?_
  refine y_iconst cx d_X5_become_19 20 rfl ?_
  refine z_aload_n cx d_X5_become_20 21 rfl rfl 0 rfl ?_
  refine z_get cx d_X5_become_21 24 rfl e_D4 rfl zX5 1 (by decide) q_68 rfl rfl ?_
  refine y_iconst cx d_X5_become_24 25 rfl ?_
  refine y_bipush cx d_X5_become_25 27 rfl (by decide) ?_
  refine y_copy cx d_X5_become_27 30 rfl q_515 q_517 q_516 q_44 e_N_second e_D4_second (by decide) (by decide) (Nat.le_of_ble_eq_true rfl) (Nat.le_of_ble_eq_true rfl) h (fun _ h9 => s_D4_second h9) (fun D_2 h => ?_)
  refine z_aload_n cx d_X5_become_30 31 rfl rfl 1 rfl ?_
  refine z_get cx d_X5_become_31 34 rfl e_N rfl zX5 2 (by decide) q_72 rfl rfl ?_
  refine y_iconst cx d_X5_become_34 35 rfl ?_
  refine z_aload_n cx d_X5_become_35 36 rfl rfl 0 rfl ?_
  refine z_get cx d_X5_become_36 39 rfl e_D4 rfl zX5 2 (by decide) q_72 rfl rfl ?_
  refine y_iconst cx d_X5_become_39 40 rfl ?_
  refine y_bipush cx d_X5_become_40 42 rfl (by decide) ?_
  refine y_copy cx d_X5_become_42 45 rfl q_515 q_517 q_516 q_44 e_N_weight e_D4_weight (by decide) (by decide) (Nat.le_of_ble_eq_true rfl) (Nat.le_of_ble_eq_true rfl) h (fun _ h9 => s_D4_weight h9) (fun D_3 h => ?_)
  refine z_aload_n cx d_X5_become_45 46 rfl rfl 1 rfl ?_
  refine z_get cx d_X5_become_46 49 rfl e_N rfl zX5 3 (by decide) q_74 rfl rfl ?_
  refine y_iconst cx d_X5_become_49 50 rfl ?_
  refine z_aload_n cx d_X5_become_50 51 rfl rfl 0 rfl ?_
  refine z_get cx d_X5_become_51 54 rfl e_D4 rfl zX5 3 (by decide) q_74 rfl rfl ?_
  refine y_iconst cx d_X5_become_54 55 rfl ?_
  refine y_bipush cx d_X5_become_55 57 rfl (by decide) ?_
  refine y_copy cx d_X5_become_57 60 rfl q_515 q_517 q_516 q_44 e_N_home e_D4_home (by decide) (by decide) (Nat.le_of_ble_eq_true rfl) (Nat.le_of_ble_eq_true rfl) h (fun _ h9 => s_D4_home h9) (fun D_4 h => ?_)
  refine z_aload_n cx d_X5_become_60 61 rfl rfl 0 rfl ?_
  refine z_aload_n cx d_X5_become_61 62 rfl rfl 1 rfl ?_
  refine z_get cx d_X5_become_62 65 rfl e_N rfl zX5 4 (by decide) q_78 rfl rfl ?_
  refine y_put cx d_X5_become_65 68 rfl e_D4 rfl zX5 tyX5_ok nmX5 4 (by decide) q_78 rfl rfl rfl rfl (Nat.le_of_ble_eq_true rfl) h (fun _ h9 => s_D4_4 h9) (fun D_5 h => ?_)
  refine z_aload_n cx d_X5_become_68 69 rfl rfl 0 rfl ?_
  refine z_aload_n cx d_X5_become_69 70 rfl rfl 1 rfl ?_
  refine z_get cx d_X5_become_70 73 rfl e_N rfl zX5 5 (by decide) q_84 rfl rfl ?_
  refine y_put cx d_X5_become_73 76 rfl e_D4 rfl zX5 tyX5_ok nmX5 5 (by decide) q_84 rfl rfl rfl rfl (Nat.le_of_ble_eq_true rfl) h (fun _ h9 => s_D4_5 h9) (fun D_6 h => ?_)
  refine z_aload_n cx d_X5_become_76 77 rfl rfl 0 rfl ?_
  refine z_aload_n cx d_X5_become_77 78 rfl rfl 1 rfl ?_
  refine z_get cx d_X5_become_78 81 rfl e_N rfl zX5 6 (by decide) q_88 rfl rfl ?_
  refine y_put cx d_X5_become_81 84 rfl e_D4 rfl zX5 tyX5_ok nmX5 6 (by decide) q_88 rfl rfl rfl rfl (Nat.le_of_ble_eq_true rfl) h (fun _ h9 => s_D4_6 h9) (fun D_7 h => ?_)
  refine z_aload_n cx d_X5_become_84 85 rfl rfl 0 rfl ?_
  refine z_aload_n cx d_X5_become_85 86 rfl rfl 1 rfl ?_
  refine z_get cx d_X5_become_86 89 rfl e_N rfl zX5 7 (by decide) q_92 rfl rfl ?_
  refine y_put cx d_X5_become_89 92 rfl e_D4 rfl zX5 tyX5_ok nmX5 7 (by decide) q_92 rfl rfl rfl rfl (Nat.le_of_ble_eq_true rfl) h (fun _ h9 => s_D4_7 h9) (fun D_8 h => ?_)
  refine z_aload_n cx d_X5_become_92 93 rfl rfl 0 rfl ?_
  refine z_aload_n cx d_X5_become_93 94 rfl rfl 1 rfl ?_
  refine z_get cx d_X5_become_94 97 rfl e_N rfl zX5 8 (by decide) q_93 rfl rfl ?_
  refine y_put cx d_X5_become_97 100 rfl e_D4 rfl zX5 tyX5_ok nmX5 8 (by decide) q_93 rfl rfl rfl rfl (Nat.le_of_ble_eq_true rfl) h (fun _ h9 => s_D4_8 h9) (fun D_9 h => ?_)
  subst hQ
  obtain rfl := Option.some.inj h
  exact z_vret cx d_X5_become_100 rfl
set_option maxHeartbeats 4000000 in
theorem tN_become_N_K5 {l : Launch} {g : ZG} {X : ZB} {N : ZB} {T : ZB} {Rd : ZB} {Fr : ZB} {Ac : ZA} {Ch : ZB} {PS : ZB} {Ly : ZB} {Pa : ZQ} {OT : ZB} {Ea : ZB} {Ga : ZB} {Im0 : ZO} {Im1 : ZO} {La : ZB} {r : ZB} (h : fN_become N (Ac.2 5) = some r) : zMv l yX5_become cX5_become 2 none zrN_become g [.ref (g.2.2 1), .ref (g.2.2 42)] (wX g X N T Rd Fr Ac Ch PS Ly Pa OT Ea Ga Im0 Im1 La) (wX g X r T Rd Fr Ac Ch PS Ly Pa OT Ea Ga Im0 Im1 La) := by
  unfold fN_become at h
  refine zMv_q (own := RX5) rfl (by decide +kernel) (Nat.le_of_ble_eq_true rfl) (lv := [(0, .ref (g.2.2 1)), (1, .ref (g.2.2 42))]) rfl ⟨rfl, rfl⟩ ?_
  intro p e s m args below meth c A Q hQ cx
  refine z_aload_n cx d_X5_become_0 1 rfl rfl 1 rfl ?_
  refine z_get cx d_X5_become_1 4 rfl e_K5 rfl zX5 0 (by decide) q_64 rfl rfl ?_
  refine y_iconst cx d_X5_become_4 5 rfl ?_
  refine z_aload_n cx d_X5_become_5 6 rfl rfl 0 rfl ?_
  refine z_get cx d_X5_become_6 9 rfl e_N rfl zX5 0 (by decide) q_64 rfl rfl ?_
  refine y_iconst cx d_X5_become_9 10 rfl ?_
  refine y_bipush cx d_X5_become_10 12 rfl (by decide) ?_
  refine y_copy cx d_X5_become_12 15 rfl q_515 q_517 q_516 q_44 e_K5_first e_N_first (by decide) (by decide) (Nat.le_of_ble_eq_true rfl) (Nat.le_of_ble_eq_true rfl) h (fun _ h9 => s_N_first h9) (fun D_1 h => ?_)
  refine z_aload_n cx d_X5_become_15 16 rfl rfl 1 rfl ?_
  refine z_get cx d_X5_become_16 19 rfl e_K5 rfl zX5 1 (by decide) q_68 rfl rfl ?_
  refine y_iconst cx d_X5_become_19 20 rfl ?_
  refine z_aload_n cx d_X5_become_20 21 rfl rfl 0 rfl ?_
  refine z_get cx d_X5_become_21 24 rfl e_N rfl zX5 1 (by decide) q_68 rfl rfl ?_
  refine y_iconst cx d_X5_become_24 25 rfl ?_
  refine y_bipush cx d_X5_become_25 27 rfl (by decide) ?_
  refine y_copy cx d_X5_become_27 30 rfl q_515 q_517 q_516 q_44 e_K5_second e_N_second (by decide) (by decide) (Nat.le_of_ble_eq_true rfl) (Nat.le_of_ble_eq_true rfl) h (fun _ h9 => s_N_second h9) (fun D_2 h => ?_)
  refine z_aload_n cx d_X5_become_30 31 rfl rfl 1 rfl ?_
  refine z_get cx d_X5_become_31 34 rfl e_K5 rfl zX5 2 (by decide) q_72 rfl rfl ?_
  refine y_iconst cx d_X5_become_34 35 rfl ?_
  refine z_aload_n cx d_X5_become_35 36 rfl rfl 0 rfl ?_
  refine z_get cx d_X5_become_36 39 rfl e_N rfl zX5 2 (by decide) q_72 rfl rfl ?_
  refine y_iconst cx d_X5_become_39 40 rfl ?_
  refine y_bipush cx d_X5_become_40 42 rfl (by decide) ?_
  refine y_copy cx d_X5_become_42 45 rfl q_515 q_517 q_516 q_44 e_K5_weight e_N_weight (by decide) (by decide) (Nat.le_of_ble_eq_true rfl) (Nat.le_of_ble_eq_true rfl) h (fun _ h9 => s_N_weight h9) (fun D_3 h => ?_)
  refine z_aload_n cx d_X5_become_45 46 rfl rfl 1 rfl ?_
  refine z_get cx d_X5_become_46 49 rfl e_K5 rfl zX5 3 (by decide) q_74 rfl rfl ?_
  refine y_iconst cx d_X5_become_49 50 rfl ?_
  refine z_aload_n cx d_X5_become_50 51 rfl rfl 0 rfl ?_
  refine z_get cx d_X5_become_51 54 rfl e_N rfl zX5 3 (by decide) q_74 rfl rfl ?_
  refine y_iconst cx d_X5_become_54 55 rfl ?_
  refine y_bipush cx d_X5_become_55 57 rfl (by decide) ?_
  refine y_copy cx d_X5_become_57 60 rfl q_515 q_517 q_516 q_44 e_K5_home e_N_home (by decide) (by decide) (Nat.le_of_ble_eq_true rfl) (Nat.le_of_ble_eq_true rfl) h (fun _ h9 => s_N_home h9) (fun D_4 h => ?_)
  refine z_aload_n cx d_X5_become_60 61 rfl rfl 0 rfl ?_
  refine z_aload_n cx d_X5_become_61 62 rfl rfl 1 rfl ?_
  refine z_get cx d_X5_become_62 65 rfl e_K5 rfl zX5 4 (by decide) q_78 rfl rfl ?_
  refine y_put cx d_X5_become_65 68 rfl e_N rfl zX5 tyX5_ok nmX5 4 (by decide) q_78 rfl rfl rfl rfl (Nat.le_of_ble_eq_true rfl) h (fun _ h9 => s_N_4 h9) (fun D_5 h => ?_)
  refine z_aload_n cx d_X5_become_68 69 rfl rfl 0 rfl ?_
  refine z_aload_n cx d_X5_become_69 70 rfl rfl 1 rfl ?_
  refine z_get cx d_X5_become_70 73 rfl e_K5 rfl zX5 5 (by decide) q_84 rfl rfl ?_
  refine y_put cx d_X5_become_73 76 rfl e_N rfl zX5 tyX5_ok nmX5 5 (by decide) q_84 rfl rfl rfl rfl (Nat.le_of_ble_eq_true rfl) h (fun _ h9 => s_N_5 h9) (fun D_6 h => ?_)
  refine z_aload_n cx d_X5_become_76 77 rfl rfl 0 rfl ?_
  refine z_aload_n cx d_X5_become_77 78 rfl rfl 1 rfl ?_
  refine z_get cx d_X5_become_78 81 rfl e_K5 rfl zX5 6 (by decide) q_88 rfl rfl ?_
  refine y_put cx d_X5_become_81 84 rfl e_N rfl zX5 tyX5_ok nmX5 6 (by decide) q_88 rfl rfl rfl rfl (Nat.le_of_ble_eq_true rfl) h (fun _ h9 => s_N_6 h9) (fun D_7 h => ?_)
  refine z_aload_n cx d_X5_become_84 85 rfl rfl 0 rfl ?_
  refine z_aload_n cx d_X5_become_85 86 rfl rfl 1 rfl ?_
  refine z_get cx d_X5_become_86 89 rfl e_K5 rfl zX5 7 (by decide) q_92 rfl rfl ?_
  refine y_put cx d_X5_become_89 92 rfl e_N rfl zX5 tyX5_ok nmX5 7 (by decide) q_92 rfl rfl rfl rfl (Nat.le_of_ble_eq_true rfl) h (fun _ h9 => s_N_7 h9) (fun D_8 h => ?_)
  refine z_aload_n cx d_X5_become_92 93 rfl rfl 0 rfl ?_
  refine z_aload_n cx d_X5_become_93 94 rfl rfl 1 rfl ?_
  refine z_get cx d_X5_become_94 97 rfl e_K5 rfl zX5 8 (by decide) q_93 rfl rfl ?_
  refine y_put cx d_X5_become_97 100 rfl e_N rfl zX5 tyX5_ok nmX5 8 (by decide) q_93 rfl rfl rfl rfl (Nat.le_of_ble_eq_true rfl) h (fun _ h9 => s_N_8 h9) (fun D_9 h => ?_)
  subst hQ
  obtain rfl := Option.some.inj h
  exact z_vret cx d_X5_become_100 rfl
set_option maxHeartbeats 4000000 in
theorem tN_become_K5_N {l : Launch} {g : ZG} {X : ZB} {N : ZB} {T : ZB} {Rd : ZB} {Fr : ZB} {Ac : ZA} {Ch : ZB} {PS : ZB} {Ly : ZB} {Pa : ZQ} {OT : ZB} {Ea : ZB} {Ga : ZB} {Im0 : ZO} {Im1 : ZO} {La : ZB} {D : ZB} {r : ZB} (h : fN_become D N = some r) : zMv l yX5_become cX5_become 2 none zrN_become g [.ref (g.2.2 42), .ref (g.2.2 1)] (wX g X N T Rd Fr (Ac.1, ua Ac.2 5 D) Ch PS Ly Pa OT Ea Ga Im0 Im1 La) (wX g X N T Rd Fr (Ac.1, ua Ac.2 5 r) Ch PS Ly Pa OT Ea Ga Im0 Im1 La) := by
  unfold fN_become at h
  refine zMv_q (own := RX5) rfl (by decide +kernel) (Nat.le_of_ble_eq_true rfl) (lv := [(0, .ref (g.2.2 42)), (1, .ref (g.2.2 1))]) rfl ⟨rfl, rfl⟩ ?_
  intro p e s m args below meth c A Q hQ cx
  refine z_aload_n cx d_X5_become_0 1 rfl rfl 1 rfl ?_
  refine z_get cx d_X5_become_1 4 rfl e_N rfl zX5 0 (by decide) q_64 rfl rfl ?_
  refine y_iconst cx d_X5_become_4 5 rfl ?_
  refine z_aload_n cx d_X5_become_5 6 rfl rfl 0 rfl ?_
  refine z_get cx d_X5_become_6 9 rfl e_D5 rfl zX5 0 (by decide) q_64 rfl rfl ?_
  refine y_iconst cx d_X5_become_9 10 rfl ?_
  refine y_bipush cx d_X5_become_10 12 rfl (by decide) ?_
  refine y_copy cx d_X5_become_12 15 rfl q_515 q_517 q_516 q_44 e_N_first e_D5_first (by decide) (by decide) (Nat.le_of_ble_eq_true rfl) (Nat.le_of_ble_eq_true rfl) h (fun _ h9 => s_D5_first h9) (fun D_1 h => ?_)
  refine z_aload_n cx d_X5_become_15 16 rfl rfl 1 rfl ?_
  refine z_get cx d_X5_become_16 19 rfl e_N rfl zX5 1 (by decide) q_68 rfl rfl ?_
  refine y_iconst cx d_X5_become_19 20 rfl ?_
  refine z_aload_n cx d_X5_become_20 21 rfl rfl 0 rfl ?_
  refine z_get cx d_X5_become_21 24 rfl e_D5 rfl zX5 1 (by decide) q_68 rfl rfl ?_
  refine y_iconst cx d_X5_become_24 25 rfl ?_
  refine y_bipush cx d_X5_become_25 27 rfl (by decide) ?_
  refine y_copy cx d_X5_become_27 30 rfl q_515 q_517 q_516 q_44 e_N_second e_D5_second (by decide) (by decide) (Nat.le_of_ble_eq_true rfl) (Nat.le_of_ble_eq_true rfl) h (fun _ h9 => s_D5_second h9) (fun D_2 h => ?_)
  refine z_aload_n cx d_X5_become_30 31 rfl rfl 1 rfl ?_
  refine z_get cx d_X5_become_31 34 rfl e_N rfl zX5 2 (by decide) q_72 rfl rfl ?_
  refine y_iconst cx d_X5_become_34 35 rfl ?_
  refine z_aload_n cx d_X5_become_35 36 rfl rfl 0 rfl ?_
  refine z_get cx d_X5_become_36 39 rfl e_D5 rfl zX5 2 (by decide) q_72 rfl rfl ?_
  refine y_iconst cx d_X5_become_39 40 rfl ?_
  refine y_bipush cx d_X5_become_40 42 rfl (by decide) ?_
  refine y_copy cx d_X5_become_42 45 rfl q_515 q_517 q_516 q_44 e_N_weight e_D5_weight (by decide) (by decide) (Nat.le_of_ble_eq_true rfl) (Nat.le_of_ble_eq_true rfl) h (fun _ h9 => s_D5_weight h9) (fun D_3 h => ?_)
  refine z_aload_n cx d_X5_become_45 46 rfl rfl 1 rfl ?_
  refine z_get cx d_X5_become_46 49 rfl e_N rfl zX5 3 (by decide) q_74 rfl rfl ?_
  refine y_iconst cx d_X5_become_49 50 rfl ?_
  refine z_aload_n cx d_X5_become_50 51 rfl rfl 0 rfl ?_
  refine z_get cx d_X5_become_51 54 rfl e_D5 rfl zX5 3 (by decide) q_74 rfl rfl ?_
  refine y_iconst cx d_X5_become_54 55 rfl ?_
  refine y_bipush cx d_X5_become_55 57 rfl (by decide) ?_
  refine y_copy cx d_X5_become_57 60 rfl q_515 q_517 q_516 q_44 e_N_home e_D5_home (by decide) (by decide) (Nat.le_of_ble_eq_true rfl) (Nat.le_of_ble_eq_true rfl) h (fun _ h9 => s_D5_home h9) (fun D_4 h => ?_)
  refine z_aload_n cx d_X5_become_60 61 rfl rfl 0 rfl ?_
  refine z_aload_n cx d_X5_become_61 62 rfl rfl 1 rfl ?_
  refine z_get cx d_X5_become_62 65 rfl e_N rfl zX5 4 (by decide) q_78 rfl rfl ?_
  refine y_put cx d_X5_become_65 68 rfl e_D5 rfl zX5 tyX5_ok nmX5 4 (by decide) q_78 rfl rfl rfl rfl (Nat.le_of_ble_eq_true rfl) h (fun _ h9 => s_D5_4 h9) (fun D_5 h => ?_)
  refine z_aload_n cx d_X5_become_68 69 rfl rfl 0 rfl ?_
  refine z_aload_n cx d_X5_become_69 70 rfl rfl 1 rfl ?_
  refine z_get cx d_X5_become_70 73 rfl e_N rfl zX5 5 (by decide) q_84 rfl rfl ?_
  refine y_put cx d_X5_become_73 76 rfl e_D5 rfl zX5 tyX5_ok nmX5 5 (by decide) q_84 rfl rfl rfl rfl (Nat.le_of_ble_eq_true rfl) h (fun _ h9 => s_D5_5 h9) (fun D_6 h => ?_)
  refine z_aload_n cx d_X5_become_76 77 rfl rfl 0 rfl ?_
  refine z_aload_n cx d_X5_become_77 78 rfl rfl 1 rfl ?_
  refine z_get cx d_X5_become_78 81 rfl e_N rfl zX5 6 (by decide) q_88 rfl rfl ?_
  refine y_put cx d_X5_become_81 84 rfl e_D5 rfl zX5 tyX5_ok nmX5 6 (by decide) q_88 rfl rfl rfl rfl (Nat.le_of_ble_eq_true rfl) h (fun _ h9 => s_D5_6 h9) (fun D_7 h => ?_)
  refine z_aload_n cx d_X5_become_84 85 rfl rfl 0 rfl ?_
  refine z_aload_n cx d_X5_become_85 86 rfl rfl 1 rfl ?_
  refine z_get cx d_X5_become_86 89 rfl e_N rfl zX5 7 (by decide) q_92 rfl rfl ?_
  refine y_put cx d_X5_become_89 92 rfl e_D5 rfl zX5 tyX5_ok nmX5 7 (by decide) q_92 rfl rfl rfl rfl (Nat.le_of_ble_eq_true rfl) h (fun _ h9 => s_D5_7 h9) (fun D_8 h => ?_)
  refine z_aload_n cx d_X5_become_92 93 rfl rfl 0 rfl ?_
  refine z_aload_n cx d_X5_become_93 94 rfl rfl 1 rfl ?_
  refine z_get cx d_X5_become_94 97 rfl e_N rfl zX5 8 (by decide) q_93 rfl rfl ?_
  refine y_put cx d_X5_become_97 100 rfl e_D5 rfl zX5 tyX5_ok nmX5 8 (by decide) q_93 rfl rfl rfl rfl (Nat.le_of_ble_eq_true rfl) h (fun _ h9 => s_D5_8 h9) (fun D_9 h => ?_)
  subst hQ
  obtain rfl := Option.some.inj h
  exact z_vret cx d_X5_become_100 rfl
set_option maxHeartbeats 4000000 in
theorem tN_become_N_K6 {l : Launch} {g : ZG} {X : ZB} {N : ZB} {T : ZB} {Rd : ZB} {Fr : ZB} {Ac : ZA} {Ch : ZB} {PS : ZB} {Ly : ZB} {Pa : ZQ} {OT : ZB} {Ea : ZB} {Ga : ZB} {Im0 : ZO} {Im1 : ZO} {La : ZB} {r : ZB} (h : fN_become N (Ac.2 6) = some r) : zMv l yX5_become cX5_become 2 none zrN_become g [.ref (g.2.2 1), .ref (g.2.2 47)] (wX g X N T Rd Fr Ac Ch PS Ly Pa OT Ea Ga Im0 Im1 La) (wX g X r T Rd Fr Ac Ch PS Ly Pa OT Ea Ga Im0 Im1 La) := by
  unfold fN_become at h
  refine zMv_q (own := RX5) rfl (by decide +kernel) (Nat.le_of_ble_eq_true rfl) (lv := [(0, .ref (g.2.2 1)), (1, .ref (g.2.2 47))]) rfl ⟨rfl, rfl⟩ ?_
  intro p e s m args below meth c A Q hQ cx
  refine z_aload_n cx d_X5_become_0 1 rfl rfl 1 rfl ?_
  refine z_get cx d_X5_become_1 4 rfl e_K6 rfl zX5 0 (by decide) q_64 rfl rfl ?_
  refine y_iconst cx d_X5_become_4 5 rfl ?_
  refine z_aload_n cx d_X5_become_5 6 rfl rfl 0 rfl ?_
  refine z_get cx d_X5_become_6 9 rfl e_N rfl zX5 0 (by decide) q_64 rfl rfl ?_
  refine y_iconst cx d_X5_become_9 10 rfl ?_
  refine y_bipush cx d_X5_become_10 12 rfl (by decide) ?_
  refine y_copy cx d_X5_become_12 15 rfl q_515 q_517 q_516 q_44 e_K6_first e_N_first (by decide) (by decide) (Nat.le_of_ble_eq_true rfl) (Nat.le_of_ble_eq_true rfl) h (fun _ h9 => s_N_first h9) (fun D_1 h => ?_)
  refine z_aload_n cx d_X5_become_15 16 rfl rfl 1 rfl ?_
  refine z_get cx d_X5_become_16 19 rfl e_K6 rfl zX5 1 (by decide) q_68 rfl rfl ?_
  refine y_iconst cx d_X5_become_19 20 rfl ?_
  refine z_aload_n cx d_X5_become_20 21 rfl rfl 0 rfl ?_
  refine z_get cx d_X5_become_21 24 rfl e_N rfl zX5 1 (by decide) q_68 rfl rfl ?_
  refine y_iconst cx d_X5_become_24 25 rfl ?_
  refine y_bipush cx d_X5_become_25 27 rfl (by decide) ?_
  refine y_copy cx d_X5_become_27 30 rfl q_515 q_517 q_516 q_44 e_K6_second e_N_second (by decide) (by decide) (Nat.le_of_ble_eq_true rfl) (Nat.le_of_ble_eq_true rfl) h (fun _ h9 => s_N_second h9) (fun D_2 h => ?_)
  refine z_aload_n cx d_X5_become_30 31 rfl rfl 1 rfl ?_
  refine z_get cx d_X5_become_31 34 rfl e_K6 rfl zX5 2 (by decide) q_72 rfl rfl ?_
  refine y_iconst cx d_X5_become_34 35 rfl ?_
  refine z_aload_n cx d_X5_become_35 36 rfl rfl 0 rfl ?_
  refine z_get cx d_X5_become_36 39 rfl e_N rfl zX5 2 (by decide) q_72 rfl rfl ?_
  refine y_iconst cx d_X5_become_39 40 rfl ?_
  refine y_bipush cx d_X5_become_40 42 rfl (by decide) ?_
  refine y_copy cx d_X5_become_42 45 rfl q_515 q_517 q_516 q_44 e_K6_weight e_N_weight (by decide) (by decide) (Nat.le_of_ble_eq_true rfl) (Nat.le_of_ble_eq_true rfl) h (fun _ h9 => s_N_weight h9) (fun D_3 h => ?_)
  refine z_aload_n cx d_X5_become_45 46 rfl rfl 1 rfl ?_
  refine z_get cx d_X5_become_46 49 rfl e_K6 rfl zX5 3 (by decide) q_74 rfl rfl ?_
  refine y_iconst cx d_X5_become_49 50 rfl ?_
  refine z_aload_n cx d_X5_become_50 51 rfl rfl 0 rfl ?_
  refine z_get cx d_X5_become_51 54 rfl e_N rfl zX5 3 (by decide) q_74 rfl rfl ?_
  refine y_iconst cx d_X5_become_54 55 rfl ?_
  refine y_bipush cx d_X5_become_55 57 rfl (by decide) ?_
  refine y_copy cx d_X5_become_57 60 rfl q_515 q_517 q_516 q_44 e_K6_home e_N_home (by decide) (by decide) (Nat.le_of_ble_eq_true rfl) (Nat.le_of_ble_eq_true rfl) h (fun _ h9 => s_N_home h9) (fun D_4 h => ?_)
  refine z_aload_n cx d_X5_become_60 61 rfl rfl 0 rfl ?_
  refine z_aload_n cx d_X5_become_61 62 rfl rfl 1 rfl ?_
  refine z_get cx d_X5_become_62 65 rfl e_K6 rfl zX5 4 (by decide) q_78 rfl rfl ?_
  refine y_put cx d_X5_become_65 68 rfl e_N rfl zX5 tyX5_ok nmX5 4 (by decide) q_78 rfl rfl rfl rfl (Nat.le_of_ble_eq_true rfl) h (fun _ h9 => s_N_4 h9) (fun D_5 h => ?_)
  refine z_aload_n cx d_X5_become_68 69 rfl rfl 0 rfl ?_
  refine z_aload_n cx d_X5_become_69 70 rfl rfl 1 rfl ?_
  refine z_get cx d_X5_become_70 73 rfl e_K6 rfl zX5 5 (by decide) q_84 rfl rfl ?_
  refine y_put cx d_X5_become_73 76 rfl e_N rfl zX5 tyX5_ok nmX5 5 (by decide) q_84 rfl rfl rfl rfl (Nat.le_of_ble_eq_true rfl) h (fun _ h9 => s_N_5 h9) (fun D_6 h => ?_)
  refine z_aload_n cx d_X5_become_76 77 rfl rfl 0 rfl ?_
  refine z_aload_n cx d_X5_become_77 78 rfl rfl 1 rfl ?_
  refine z_get cx d_X5_become_78 81 rfl e_K6 rfl zX5 6 (by decide) q_88 rfl rfl ?_
  refine y_put cx d_X5_become_81 84 rfl e_N rfl zX5 tyX5_ok nmX5 6 (by decide) q_88 rfl rfl rfl rfl (Nat.le_of_ble_eq_true rfl) h (fun _ h9 => s_N_6 h9) (fun D_7 h => ?_)
  refine z_aload_n cx d_X5_become_84 85 rfl rfl 0 rfl ?_
  refine z_aload_n cx d_X5_become_85 86 rfl rfl 1 rfl ?_
  refine z_get cx d_X5_become_86 89 rfl e_K6 rfl zX5 7 (by decide) q_92 rfl rfl ?_
  refine y_put cx d_X5_become_89 92 rfl e_N rfl zX5 tyX5_ok nmX5 7 (by decide) q_92 rfl rfl rfl rfl (Nat.le_of_ble_eq_true rfl) h (fun _ h9 => s_N_7 h9) (fun D_8 h => ?_)
  refine z_aload_n cx d_X5_become_92 93 rfl rfl 0 rfl ?_
  refine z_aload_n cx d_X5_become_93 94 rfl rfl 1 rfl ?_
  refine z_get cx d_X5_become_94 97 rfl e_K6 rfl zX5 8 (by decide) q_93 rfl rfl ?_
  refine y_put cx d_X5_become_97 100 rfl e_N rfl zX5 tyX5_ok nmX5 8 (by decide) q_93 rfl rfl rfl rfl (Nat.le_of_ble_eq_true rfl) h (fun _ h9 => s_N_8 h9) (fun D_9 h => ?_)
  subst hQ
  obtain rfl := Option.some.inj h
  exact z_vret cx d_X5_become_100 rfl
set_option maxHeartbeats 4000000 in
theorem tN_become_K6_N {l : Launch} {g : ZG} {X : ZB} {N : ZB} {T : ZB} {Rd : ZB} {Fr : ZB} {Ac : ZA} {Ch : ZB} {PS : ZB} {Ly : ZB} {Pa : ZQ} {OT : ZB} {Ea : ZB} {Ga : ZB} {Im0 : ZO} {Im1 : ZO} {La : ZB} {D : ZB} {r : ZB} (h : fN_become D N = some r) : zMv l yX5_become cX5_become 2 none zrN_become g [.ref (g.2.2 47), .ref (g.2.2 1)] (wX g X N T Rd Fr (Ac.1, ua Ac.2 6 D) Ch PS Ly Pa OT Ea Ga Im0 Im1 La) (wX g X N T Rd Fr (Ac.1, ua Ac.2 6 r) Ch PS Ly Pa OT Ea Ga Im0 Im1 La) := by
  unfold fN_become at h
  refine zMv_q (own := RX5) rfl (by decide +kernel) (Nat.le_of_ble_eq_true rfl) (lv := [(0, .ref (g.2.2 47)), (1, .ref (g.2.2 1))]) rfl ⟨rfl, rfl⟩ ?_
  intro p e s m args below meth c A Q hQ cx
  refine z_aload_n cx d_X5_become_0 1 rfl rfl 1 rfl ?_
  refine z_get cx d_X5_become_1 4 rfl e_N rfl zX5 0 (by decide) q_64 rfl rfl ?_
  refine y_iconst cx d_X5_become_4 5 rfl ?_
  refine z_aload_n cx d_X5_become_5 6 rfl rfl 0 rfl ?_
  refine z_get cx d_X5_become_6 9 rfl e_D6 rfl zX5 0 (by decide) q_64 rfl rfl ?_
  refine y_iconst cx d_X5_become_9 10 rfl ?_
  refine y_bipush cx d_X5_become_10 12 rfl (by decide) ?_
  refine y_copy cx d_X5_become_12 15 rfl q_515 q_517 q_516 q_44 e_N_first e_D6_first (by decide) (by decide) (Nat.le_of_ble_eq_true rfl) (Nat.le_of_ble_eq_true rfl) h (fun _ h9 => s_D6_first h9) (fun D_1 h => ?_)
  refine z_aload_n cx d_X5_become_15 16 rfl rfl 1 rfl ?_
  refine z_get cx d_X5_become_16 19 rfl e_N rfl zX5 1 (by decide) q_68 rfl rfl ?_
  refine y_iconst cx d_X5_become_19 20 rfl ?_
  refine z_aload_n cx d_X5_become_20 21 rfl rfl 0 rfl ?_
  refine z_get cx d_X5_become_21 24 rfl e_D6 rfl zX5 1 (by decide) q_68 rfl rfl ?_
  refine y_iconst cx d_X5_become_24 25 rfl ?_
  refine y_bipush cx d_X5_become_25 27 rfl (by decide) ?_
  refine y_copy cx d_X5_become_27 30 rfl q_515 q_517 q_516 q_44 e_N_second e_D6_second (by decide) (by decide) (Nat.le_of_ble_eq_true rfl) (Nat.le_of_ble_eq_true rfl) h (fun _ h9 => s_D6_second h9) (fun D_2 h => ?_)
  refine z_aload_n cx d_X5_become_30 31 rfl rfl 1 rfl ?_
  refine z_get cx d_X5_become_31 34 rfl e_N rfl zX5 2 (by decide) q_72 rfl rfl ?_
  refine y_iconst cx d_X5_become_34 35 rfl ?_
  refine z_aload_n cx d_X5_become_35 36 rfl rfl 0 rfl ?_
  refine z_get cx d_X5_become_36 39 rfl e_D6 rfl zX5 2 (by decide) q_72 rfl rfl ?_
  refine y_iconst cx d_X5_become_39 40 rfl ?_
  refine y_bipush cx d_X5_become_40 42 rfl (by decide) ?_
  refine y_copy cx d_X5_become_42 45 rfl q_515 q_517 q_516 q_44 e_N_weight e_D6_weight (by decide) (by decide) (Nat.le_of_ble_eq_true rfl) (Nat.le_of_ble_eq_true rfl) h (fun _ h9 => s_D6_weight h9) (fun D_3 h => ?_)
  refine z_aload_n cx d_X5_become_45 46 rfl rfl 1 rfl ?_
  refine z_get cx d_X5_become_46 49 rfl e_N rfl zX5 3 (by decide) q_74 rfl rfl ?_
  refine y_iconst cx d_X5_become_49 50 rfl ?_
  refine z_aload_n cx d_X5_become_50 51 rfl rfl 0 rfl ?_
  refine z_get cx d_X5_become_51 54 rfl e_D6 rfl zX5 3 (by decide) q_74 rfl rfl ?_
  refine y_iconst cx d_X5_become_54 55 rfl ?_
  refine y_bipush cx d_X5_become_55 57 rfl (by decide) ?_
  refine y_copy cx d_X5_become_57 60 rfl q_515 q_517 q_516 q_44 e_N_home e_D6_home (by decide) (by decide) (Nat.le_of_ble_eq_true rfl) (Nat.le_of_ble_eq_true rfl) h (fun _ h9 => s_D6_home h9) (fun D_4 h => ?_)
  refine z_aload_n cx d_X5_become_60 61 rfl rfl 0 rfl ?_
  refine z_aload_n cx d_X5_become_61 62 rfl rfl 1 rfl ?_
  refine z_get cx d_X5_become_62 65 rfl e_N rfl zX5 4 (by decide) q_78 rfl rfl ?_
  refine y_put cx d_X5_become_65 68 rfl e_D6 rfl zX5 tyX5_ok nmX5 4 (by decide) q_78 rfl rfl rfl rfl (Nat.le_of_ble_eq_true rfl) h (fun _ h9 => s_D6_4 h9) (fun D_5 h => ?_)
  refine z_aload_n cx d_X5_become_68 69 rfl rfl 0 rfl ?_
  refine z_aload_n cx d_X5_become_69 70 rfl rfl 1 rfl ?_
  refine z_get cx d_X5_become_70 73 rfl e_N rfl zX5 5 (by decide) q_84 rfl rfl ?_
  refine y_put cx d_X5_become_73 76 rfl e_D6 rfl zX5 tyX5_ok nmX5 5 (by decide) q_84 rfl rfl rfl rfl (Nat.le_of_ble_eq_true rfl) h (fun _ h9 => s_D6_5 h9) (fun D_6 h => ?_)
  refine z_aload_n cx d_X5_become_76 77 rfl rfl 0 rfl ?_
  refine z_aload_n cx d_X5_become_77 78 rfl rfl 1 rfl ?_
  refine z_get cx d_X5_become_78 81 rfl e_N rfl zX5 6 (by decide) q_88 rfl rfl ?_
  refine y_put cx d_X5_become_81 84 rfl e_D6 rfl zX5 tyX5_ok nmX5 6 (by decide) q_88 rfl rfl rfl rfl (Nat.le_of_ble_eq_true rfl) h (fun _ h9 => s_D6_6 h9) (fun D_7 h => ?_)
  refine z_aload_n cx d_X5_become_84 85 rfl rfl 0 rfl ?_
  refine z_aload_n cx d_X5_become_85 86 rfl rfl 1 rfl ?_
  refine z_get cx d_X5_become_86 89 rfl e_N rfl zX5 7 (by decide) q_92 rfl rfl ?_
  refine y_put cx d_X5_become_89 92 rfl e_D6 rfl zX5 tyX5_ok nmX5 7 (by decide) q_92 rfl rfl rfl rfl (Nat.le_of_ble_eq_true rfl) h (fun _ h9 => s_D6_7 h9) (fun D_8 h => ?_)
  refine z_aload_n cx d_X5_become_92 93 rfl rfl 0 rfl ?_
  refine z_aload_n cx d_X5_become_93 94 rfl rfl 1 rfl ?_
  refine z_get cx d_X5_become_94 97 rfl e_N rfl zX5 8 (by decide) q_93 rfl rfl ?_
  refine y_put cx d_X5_become_97 100 rfl e_D6 rfl zX5 tyX5_ok nmX5 8 (by decide) q_93 rfl rfl rfl rfl (Nat.le_of_ble_eq_true rfl) h (fun _ h9 => s_D6_8 h9) (fun D_9 h => ?_)
  subst hQ
  obtain rfl := Option.some.inj h
  exact z_vret cx d_X5_become_100 rfl
set_option maxHeartbeats 4000000 in
theorem tN_become_N_K7 {l : Launch} {g : ZG} {X : ZB} {N : ZB} {T : ZB} {Rd : ZB} {Fr : ZB} {Ac : ZA} {Ch : ZB} {PS : ZB} {Ly : ZB} {Pa : ZQ} {OT : ZB} {Ea : ZB} {Ga : ZB} {Im0 : ZO} {Im1 : ZO} {La : ZB} {r : ZB} (h : fN_become N (Ac.2 7) = some r) : zMv l yX5_become cX5_become 2 none zrN_become g [.ref (g.2.2 1), .ref (g.2.2 52)] (wX g X N T Rd Fr Ac Ch PS Ly Pa OT Ea Ga Im0 Im1 La) (wX g X r T Rd Fr Ac Ch PS Ly Pa OT Ea Ga Im0 Im1 La) := by
  unfold fN_become at h
  refine zMv_q (own := RX5) rfl (by decide +kernel) (Nat.le_of_ble_eq_true rfl) (lv := [(0, .ref (g.2.2 1)), (1, .ref (g.2.2 52))]) rfl ⟨rfl, rfl⟩ ?_
  intro p e s m args below meth c A Q hQ cx
  refine z_aload_n cx d_X5_become_0 1 rfl rfl 1 rfl ?_
  refine z_get cx d_X5_become_1 4 rfl e_K7 rfl zX5 0 (by decide) q_64 rfl rfl ?_
  refine y_iconst cx d_X5_become_4 5 rfl ?_
  refine z_aload_n cx d_X5_become_5 6 rfl rfl 0 rfl ?_
  refine z_get cx d_X5_become_6 9 rfl e_N rfl zX5 0 (by decide) q_64 rfl rfl ?_
  refine y_iconst cx d_X5_become_9 10 rfl ?_
  refine y_bipush cx d_X5_become_10 12 rfl (by decide) ?_
  refine y_copy cx d_X5_become_12 15 rfl q_515 q_517 q_516 q_44 e_K7_first e_N_first (by decide) (by decide) (Nat.le_of_ble_eq_true rfl) (Nat.le_of_ble_eq_true rfl) h (fun _ h9 => s_N_first h9) (fun D_1 h => ?_)
  refine z_aload_n cx d_X5_become_15 16 rfl rfl 1 rfl ?_
  refine z_get cx d_X5_become_16 19 rfl e_K7 rfl zX5 1 (by decide) q_68 rfl rfl ?_
  refine y_iconst cx d_X5_become_19 20 rfl ?_
  refine z_aload_n cx d_X5_become_20 21 rfl rfl 0 rfl ?_
  refine z_get cx d_X5_become_21 24 rfl e_N rfl zX5 1 (by decide) q_68 rfl rfl ?_
  refine y_iconst cx d_X5_become_24 25 rfl ?_
  refine y_bipush cx d_X5_become_25 27 rfl (by decide) ?_
  refine y_copy cx d_X5_become_27 30 rfl q_515 q_517 q_516 q_44 e_K7_second e_N_second (by decide) (by decide) (Nat.le_of_ble_eq_true rfl) (Nat.le_of_ble_eq_true rfl) h (fun _ h9 => s_N_second h9) (fun D_2 h => ?_)
  refine z_aload_n cx d_X5_become_30 31 rfl rfl 1 rfl ?_
  refine z_get cx d_X5_become_31 34 rfl e_K7 rfl zX5 2 (by decide) q_72 rfl rfl ?_
  refine y_iconst cx d_X5_become_34 35 rfl ?_
  refine z_aload_n cx d_X5_become_35 36 rfl rfl 0 rfl ?_
  refine z_get cx d_X5_become_36 39 rfl e_N rfl zX5 2 (by decide) q_72 rfl rfl ?_
  refine y_iconst cx d_X5_become_39 40 rfl ?_
  refine y_bipush cx d_X5_become_40 42 rfl (by decide) ?_
  refine y_copy cx d_X5_become_42 45 rfl q_515 q_517 q_516 q_44 e_K7_weight e_N_weight (by decide) (by decide) (Nat.le_of_ble_eq_true rfl) (Nat.le_of_ble_eq_true rfl) h (fun _ h9 => s_N_weight h9) (fun D_3 h => ?_)
  refine z_aload_n cx d_X5_become_45 46 rfl rfl 1 rfl ?_
  refine z_get cx d_X5_become_46 49 rfl e_K7 rfl zX5 3 (by decide) q_74 rfl rfl ?_
  refine y_iconst cx d_X5_become_49 50 rfl ?_
  refine z_aload_n cx d_X5_become_50 51 rfl rfl 0 rfl ?_
  refine z_get cx d_X5_become_51 54 rfl e_N rfl zX5 3 (by decide) q_74 rfl rfl ?_
  refine y_iconst cx d_X5_become_54 55 rfl ?_
  refine y_bipush cx d_X5_become_55 57 rfl (by decide) ?_
  refine y_copy cx d_X5_become_57 60 rfl q_515 q_517 q_516 q_44 e_K7_home e_N_home (by decide) (by decide) (Nat.le_of_ble_eq_true rfl) (Nat.le_of_ble_eq_true rfl) h (fun _ h9 => s_N_home h9) (fun D_4 h => ?_)
  refine z_aload_n cx d_X5_become_60 61 rfl rfl 0 rfl ?_
  refine z_aload_n cx d_X5_become_61 62 rfl rfl 1 rfl ?_
  refine z_get cx d_X5_become_62 65 rfl e_K7 rfl zX5 4 (by decide) q_78 rfl rfl ?_
  refine y_put cx d_X5_become_65 68 rfl e_N rfl zX5 tyX5_ok nmX5 4 (by decide) q_78 rfl rfl rfl rfl (Nat.le_of_ble_eq_true rfl) h (fun _ h9 => s_N_4 h9) (fun D_5 h => ?_)
  refine z_aload_n cx d_X5_become_68 69 rfl rfl 0 rfl ?_
  refine z_aload_n cx d_X5_become_69 70 rfl rfl 1 rfl ?_
  refine z_get cx d_X5_become_70 73 rfl e_K7 rfl zX5 5 (by decide) q_84 rfl rfl ?_
  refine y_put cx d_X5_become_73 76 rfl e_N rfl zX5 tyX5_ok nmX5 5 (by decide) q_84 rfl rfl rfl rfl (Nat.le_of_ble_eq_true rfl) h (fun _ h9 => s_N_5 h9) (fun D_6 h => ?_)
  refine z_aload_n cx d_X5_become_76 77 rfl rfl 0 rfl ?_
  refine z_aload_n cx d_X5_become_77 78 rfl rfl 1 rfl ?_
  refine z_get cx d_X5_become_78 81 rfl e_K7 rfl zX5 6 (by decide) q_88 rfl rfl ?_
  refine y_put cx d_X5_become_81 84 rfl e_N rfl zX5 tyX5_ok nmX5 6 (by decide) q_88 rfl rfl rfl rfl (Nat.le_of_ble_eq_true rfl) h (fun _ h9 => s_N_6 h9) (fun D_7 h => ?_)
  refine z_aload_n cx d_X5_become_84 85 rfl rfl 0 rfl ?_
  refine z_aload_n cx d_X5_become_85 86 rfl rfl 1 rfl ?_
  refine z_get cx d_X5_become_86 89 rfl e_K7 rfl zX5 7 (by decide) q_92 rfl rfl ?_
  refine y_put cx d_X5_become_89 92 rfl e_N rfl zX5 tyX5_ok nmX5 7 (by decide) q_92 rfl rfl rfl rfl (Nat.le_of_ble_eq_true rfl) h (fun _ h9 => s_N_7 h9) (fun D_8 h => ?_)
  refine z_aload_n cx d_X5_become_92 93 rfl rfl 0 rfl ?_
  refine z_aload_n cx d_X5_become_93 94 rfl rfl 1 rfl ?_
  refine z_get cx d_X5_become_94 97 rfl e_K7 rfl zX5 8 (by decide) q_93 rfl rfl ?_
  refine y_put cx d_X5_become_97 100 rfl e_N rfl zX5 tyX5_ok nmX5 8 (by decide) q_93 rfl rfl rfl rfl (Nat.le_of_ble_eq_true rfl) h (fun _ h9 => s_N_8 h9) (fun D_9 h => ?_)
  subst hQ
  obtain rfl := Option.some.inj h
  exact z_vret cx d_X5_become_100 rfl
set_option maxHeartbeats 4000000 in
theorem tN_become_K7_N {l : Launch} {g : ZG} {X : ZB} {N : ZB} {T : ZB} {Rd : ZB} {Fr : ZB} {Ac : ZA} {Ch : ZB} {PS : ZB} {Ly : ZB} {Pa : ZQ} {OT : ZB} {Ea : ZB} {Ga : ZB} {Im0 : ZO} {Im1 : ZO} {La : ZB} {D : ZB} {r : ZB} (h : fN_become D N = some r) : zMv l yX5_become cX5_become 2 none zrN_become g [.ref (g.2.2 52), .ref (g.2.2 1)] (wX g X N T Rd Fr (Ac.1, ua Ac.2 7 D) Ch PS Ly Pa OT Ea Ga Im0 Im1 La) (wX g X N T Rd Fr (Ac.1, ua Ac.2 7 r) Ch PS Ly Pa OT Ea Ga Im0 Im1 La) := by
  unfold fN_become at h
  refine zMv_q (own := RX5) rfl (by decide +kernel) (Nat.le_of_ble_eq_true rfl) (lv := [(0, .ref (g.2.2 52)), (1, .ref (g.2.2 1))]) rfl ⟨rfl, rfl⟩ ?_
  intro p e s m args below meth c A Q hQ cx
  refine z_aload_n cx d_X5_become_0 1 rfl rfl 1 rfl ?_
  refine z_get cx d_X5_become_1 4 rfl e_N rfl zX5 0 (by decide) q_64 rfl rfl ?_
  refine y_iconst cx d_X5_become_4 5 rfl ?_
  refine z_aload_n cx d_X5_become_5 6 rfl rfl 0 rfl ?_
  refine z_get cx d_X5_become_6 9 rfl e_D7 rfl zX5 0 (by decide) q_64 rfl rfl ?_
  refine y_iconst cx d_X5_become_9 10 rfl ?_
  refine y_bipush cx d_X5_become_10 12 rfl (by decide) ?_
  refine y_copy cx d_X5_become_12 15 rfl q_515 q_517 q_516 q_44 e_N_first e_D7_first (by decide) (by decide) (Nat.le_of_ble_eq_true rfl) (Nat.le_of_ble_eq_true rfl) h (fun _ h9 => s_D7_first h9) (fun D_1 h => ?_)
  refine z_aload_n cx d_X5_become_15 16 rfl rfl 1 rfl ?_
  refine z_get cx d_X5_become_16 19 rfl e_N rfl zX5 1 (by decide) q_68 rfl rfl ?_
  refine y_iconst cx d_X5_become_19 20 rfl ?_
  refine z_aload_n cx d_X5_become_20 21 rfl rfl 0 rfl ?_
  refine z_get cx d_X5_become_21 24 rfl e_D7 rfl zX5 1 (by decide) q_68 rfl rfl ?_
  refine y_iconst cx d_X5_become_24 25 rfl ?_
  refine y_bipush cx d_X5_become_25 27 rfl (by decide) ?_
  refine y_copy cx d_X5_become_27 30 rfl q_515 q_517 q_516 q_44 e_N_second e_D7_second (by decide) (by decide) (Nat.le_of_ble_eq_true rfl) (Nat.le_of_ble_eq_true rfl) h (fun _ h9 => s_D7_second h9) (fun D_2 h => ?_)
  refine z_aload_n cx d_X5_become_30 31 rfl rfl 1 rfl ?_
  refine z_get cx d_X5_become_31 34 rfl e_N rfl zX5 2 (by decide) q_72 rfl rfl ?_
  refine y_iconst cx d_X5_become_34 35 rfl ?_
  refine z_aload_n cx d_X5_become_35 36 rfl rfl 0 rfl ?_
  refine z_get cx d_X5_become_36 39 rfl e_D7 rfl zX5 2 (by decide) q_72 rfl rfl ?_
  refine y_iconst cx d_X5_become_39 40 rfl ?_
  refine y_bipush cx d_X5_become_40 42 rfl (by decide) ?_
  refine y_copy cx d_X5_become_42 45 rfl q_515 q_517 q_516 q_44 e_N_weight e_D7_weight (by decide) (by decide) (Nat.le_of_ble_eq_true rfl) (Nat.le_of_ble_eq_true rfl) h (fun _ h9 => s_D7_weight h9) (fun D_3 h => ?_)
  refine z_aload_n cx d_X5_become_45 46 rfl rfl 1 rfl ?_
  refine z_get cx d_X5_become_46 49 rfl e_N rfl zX5 3 (by decide) q_74 rfl rfl ?_
  refine y_iconst cx d_X5_become_49 50 rfl ?_
  refine z_aload_n cx d_X5_become_50 51 rfl rfl 0 rfl ?_
  refine z_get cx d_X5_become_51 54 rfl e_D7 rfl zX5 3 (by decide) q_74 rfl rfl ?_
  refine y_iconst cx d_X5_become_54 55 rfl ?_
  refine y_bipush cx d_X5_become_55 57 rfl (by decide) ?_
  refine y_copy cx d_X5_become_57 60 rfl q_515 q_517 q_516 q_44 e_N_home e_D7_home (by decide) (by decide) (Nat.le_of_ble_eq_true rfl) (Nat.le_of_ble_eq_true rfl) h (fun _ h9 => s_D7_home h9) (fun D_4 h => ?_)
  refine z_aload_n cx d_X5_become_60 61 rfl rfl 0 rfl ?_
  refine z_aload_n cx d_X5_become_61 62 rfl rfl 1 rfl ?_
  refine z_get cx d_X5_become_62 65 rfl e_N rfl zX5 4 (by decide) q_78 rfl rfl ?_
  refine y_put cx d_X5_become_65 68 rfl e_D7 rfl zX5 tyX5_ok nmX5 4 (by decide) q_78 rfl rfl rfl rfl (Nat.le_of_ble_eq_true rfl) h (fun _ h9 => s_D7_4 h9) (fun D_5 h => ?_)
  refine z_aload_n cx d_X5_become_68 69 rfl rfl 0 rfl ?_
  refine z_aload_n cx d_X5_become_69 70 rfl rfl 1 rfl ?_
  refine z_get cx d_X5_become_70 73 rfl e_N rfl zX5 5 (by decide) q_84 rfl rfl ?_
  refine y_put cx d_X5_become_73 76 rfl e_D7 rfl zX5 tyX5_ok nmX5 5 (by decide) q_84 rfl rfl rfl rfl (Nat.le_of_ble_eq_true rfl) h (fun _ h9 => s_D7_5 h9) (fun D_6 h => ?_)
  refine z_aload_n cx d_X5_become_76 77 rfl rfl 0 rfl ?_
  refine z_aload_n cx d_X5_become_77 78 rfl rfl 1 rfl ?_
  refine z_get cx d_X5_become_78 81 rfl e_N rfl zX5 6 (by decide) q_88 rfl rfl ?_
  refine y_put cx d_X5_become_81 84 rfl e_D7 rfl zX5 tyX5_ok nmX5 6 (by decide) q_88 rfl rfl rfl rfl (Nat.le_of_ble_eq_true rfl) h (fun _ h9 => s_D7_6 h9) (fun D_7 h => ?_)
  refine z_aload_n cx d_X5_become_84 85 rfl rfl 0 rfl ?_
  refine z_aload_n cx d_X5_become_85 86 rfl rfl 1 rfl ?_
  refine z_get cx d_X5_become_86 89 rfl e_N rfl zX5 7 (by decide) q_92 rfl rfl ?_
  refine y_put cx d_X5_become_89 92 rfl e_D7 rfl zX5 tyX5_ok nmX5 7 (by decide) q_92 rfl rfl rfl rfl (Nat.le_of_ble_eq_true rfl) h (fun _ h9 => s_D7_7 h9) (fun D_8 h => ?_)
  refine z_aload_n cx d_X5_become_92 93 rfl rfl 0 rfl ?_
  refine z_aload_n cx d_X5_become_93 94 rfl rfl 1 rfl ?_
  refine z_get cx d_X5_become_94 97 rfl e_N rfl zX5 8 (by decide) q_93 rfl rfl ?_
  refine y_put cx d_X5_become_97 100 rfl e_D7 rfl zX5 tyX5_ok nmX5 8 (by decide) q_93 rfl rfl rfl rfl (Nat.le_of_ble_eq_true rfl) h (fun _ h9 => s_D7_8 h9) (fun D_9 h => ?_)
  subst hQ
  obtain rfl := Option.some.inj h
  exact z_vret cx d_X5_become_100 rfl
set_option maxHeartbeats 4000000 in
theorem tN_become_N_K8 {l : Launch} {g : ZG} {X : ZB} {N : ZB} {T : ZB} {Rd : ZB} {Fr : ZB} {Ac : ZA} {Ch : ZB} {PS : ZB} {Ly : ZB} {Pa : ZQ} {OT : ZB} {Ea : ZB} {Ga : ZB} {Im0 : ZO} {Im1 : ZO} {La : ZB} {r : ZB} (h : fN_become N (Ac.2 8) = some r) : zMv l yX5_become cX5_become 2 none zrN_become g [.ref (g.2.2 1), .ref (g.2.2 57)] (wX g X N T Rd Fr Ac Ch PS Ly Pa OT Ea Ga Im0 Im1 La) (wX g X r T Rd Fr Ac Ch PS Ly Pa OT Ea Ga Im0 Im1 La) := by
  unfold fN_become at h
  refine zMv_q (own := RX5) rfl (by decide +kernel) (Nat.le_of_ble_eq_true rfl) (lv := [(0, .ref (g.2.2 1)), (1, .ref (g.2.2 57))]) rfl ⟨rfl, rfl⟩ ?_
  intro p e s m args below meth c A Q hQ cx
  refine z_aload_n cx d_X5_become_0 1 rfl rfl 1 rfl ?_
  refine z_get cx d_X5_become_1 4 rfl e_K8 rfl zX5 0 (by decide) q_64 rfl rfl ?_
  refine y_iconst cx d_X5_become_4 5 rfl ?_
  refine z_aload_n cx d_X5_become_5 6 rfl rfl 0 rfl ?_
  refine z_get cx d_X5_become_6 9 rfl e_N rfl zX5 0 (by decide) q_64 rfl rfl ?_
  refine y_iconst cx d_X5_become_9 10 rfl ?_
  refine y_bipush cx d_X5_become_10 12 rfl (by decide) ?_
  refine y_copy cx d_X5_become_12 15 rfl q_515 q_517 q_516 q_44 e_K8_first e_N_first (by decide) (by decide) (Nat.le_of_ble_eq_true rfl) (Nat.le_of_ble_eq_true rfl) h (fun _ h9 => s_N_first h9) (fun D_1 h => ?_)
  refine z_aload_n cx d_X5_become_15 16 rfl rfl 1 rfl ?_
  refine z_get cx d_X5_become_16 19 rfl e_K8 rfl zX5 1 (by decide) q_68 rfl rfl ?_
  refine y_iconst cx d_X5_become_19 20 rfl ?_
  refine z_aload_n cx d_X5_become_20 21 rfl rfl 0 rfl ?_
  refine z_get cx d_X5_become_21 24 rfl e_N rfl zX5 1 (by decide) q_68 rfl rfl ?_
  refine y_iconst cx d_X5_become_24 25 rfl ?_
  refine y_bipush cx d_X5_become_25 27 rfl (by decide) ?_
  refine y_copy cx d_X5_become_27 30 rfl q_515 q_517 q_516 q_44 e_K8_second e_N_second (by decide) (by decide) (Nat.le_of_ble_eq_true rfl) (Nat.le_of_ble_eq_true rfl) h (fun _ h9 => s_N_second h9) (fun D_2 h => ?_)
  refine z_aload_n cx d_X5_become_30 31 rfl rfl 1 rfl ?_
  refine z_get cx d_X5_become_31 34 rfl e_K8 rfl zX5 2 (by decide) q_72 rfl rfl ?_
  refine y_iconst cx d_X5_become_34 35 rfl ?_
  refine z_aload_n cx d_X5_become_35 36 rfl rfl 0 rfl ?_
  refine z_get cx d_X5_become_36 39 rfl e_N rfl zX5 2 (by decide) q_72 rfl rfl ?_
  refine y_iconst cx d_X5_become_39 40 rfl ?_
  refine y_bipush cx d_X5_become_40 42 rfl (by decide) ?_
  refine y_copy cx d_X5_become_42 45 rfl q_515 q_517 q_516 q_44 e_K8_weight e_N_weight (by decide) (by decide) (Nat.le_of_ble_eq_true rfl) (Nat.le_of_ble_eq_true rfl) h (fun _ h9 => s_N_weight h9) (fun D_3 h => ?_)
  refine z_aload_n cx d_X5_become_45 46 rfl rfl 1 rfl ?_
  refine z_get cx d_X5_become_46 49 rfl e_K8 rfl zX5 3 (by decide) q_74 rfl rfl ?_
  refine y_iconst cx d_X5_become_49 50 rfl ?_
  refine z_aload_n cx d_X5_become_50 51 rfl rfl 0 rfl ?_
  refine z_get cx d_X5_become_51 54 rfl e_N rfl zX5 3 (by decide) q_74 rfl rfl ?_
  refine y_iconst cx d_X5_become_54 55 rfl ?_
  refine y_bipush cx d_X5_become_55 57 rfl (by decide) ?_
  refine y_copy cx d_X5_become_57 60 rfl q_515 q_517 q_516 q_44 e_K8_home e_N_home (by decide) (by decide) (Nat.le_of_ble_eq_true rfl) (Nat.le_of_ble_eq_true rfl) h (fun _ h9 => s_N_home h9) (fun D_4 h => ?_)
  refine z_aload_n cx d_X5_become_60 61 rfl rfl 0 rfl ?_
  refine z_aload_n cx d_X5_become_61 62 rfl rfl 1 rfl ?_
  refine z_get cx d_X5_become_62 65 rfl e_K8 rfl zX5 4 (by decide) q_78 rfl rfl ?_
  refine y_put cx d_X5_become_65 68 rfl e_N rfl zX5 tyX5_ok nmX5 4 (by decide) q_78 rfl rfl rfl rfl (Nat.le_of_ble_eq_true rfl) h (fun _ h9 => s_N_4 h9) (fun D_5 h => ?_)
  refine z_aload_n cx d_X5_become_68 69 rfl rfl 0 rfl ?_
  refine z_aload_n cx d_X5_become_69 70 rfl rfl 1 rfl ?_
  refine z_get cx d_X5_become_70 73 rfl e_K8 rfl zX5 5 (by decide) q_84 rfl rfl ?_
  refine y_put cx d_X5_become_73 76 rfl e_N rfl zX5 tyX5_ok nmX5 5 (by decide) q_84 rfl rfl rfl rfl (Nat.le_of_ble_eq_true rfl) h (fun _ h9 => s_N_5 h9) (fun D_6 h => ?_)
  refine z_aload_n cx d_X5_become_76 77 rfl rfl 0 rfl ?_
  refine z_aload_n cx d_X5_become_77 78 rfl rfl 1 rfl ?_
  refine z_get cx d_X5_become_78 81 rfl e_K8 rfl zX5 6 (by decide) q_88 rfl rfl ?_
  refine y_put cx d_X5_become_81 84 rfl e_N rfl zX5 tyX5_ok nmX5 6 (by decide) q_88 rfl rfl rfl rfl (Nat.le_of_ble_eq_true rfl) h (fun _ h9 => s_N_6 h9) (fun D_7 h => ?_)
  refine z_aload_n cx d_X5_become_84 85 rfl rfl 0 rfl ?_
  refine z_aload_n cx d_X5_become_85 86 rfl rfl 1 rfl ?_
  refine z_get cx d_X5_become_86 89 rfl e_K8 rfl zX5 7 (by decide) q_92 rfl rfl ?_
  refine y_put cx d_X5_become_89 92 rfl e_N rfl zX5 tyX5_ok nmX5 7 (by decide) q_92 rfl rfl rfl rfl (Nat.le_of_ble_eq_true rfl) h (fun _ h9 => s_N_7 h9) (fun D_8 h => ?_)
  refine z_aload_n cx d_X5_become_92 93 rfl rfl 0 rfl ?_
  refine z_aload_n cx d_X5_become_93 94 rfl rfl 1 rfl ?_
  refine z_get cx d_X5_become_94 97 rfl e_K8 rfl zX5 8 (by decide) q_93 rfl rfl ?_
  refine y_put cx d_X5_become_97 100 rfl e_N rfl zX5 tyX5_ok nmX5 8 (by decide) q_93 rfl rfl rfl rfl (Nat.le_of_ble_eq_true rfl) h (fun _ h9 => s_N_8 h9) (fun D_9 h => ?_)
  subst hQ
  obtain rfl := Option.some.inj h
  exact z_vret cx d_X5_become_100 rfl
set_option maxHeartbeats 4000000 in
theorem tN_become_K8_N {l : Launch} {g : ZG} {X : ZB} {N : ZB} {T : ZB} {Rd : ZB} {Fr : ZB} {Ac : ZA} {Ch : ZB} {PS : ZB} {Ly : ZB} {Pa : ZQ} {OT : ZB} {Ea : ZB} {Ga : ZB} {Im0 : ZO} {Im1 : ZO} {La : ZB} {D : ZB} {r : ZB} (h : fN_become D N = some r) : zMv l yX5_become cX5_become 2 none zrN_become g [.ref (g.2.2 57), .ref (g.2.2 1)] (wX g X N T Rd Fr (Ac.1, ua Ac.2 8 D) Ch PS Ly Pa OT Ea Ga Im0 Im1 La) (wX g X N T Rd Fr (Ac.1, ua Ac.2 8 r) Ch PS Ly Pa OT Ea Ga Im0 Im1 La) := by
  unfold fN_become at h
  refine zMv_q (own := RX5) rfl (by decide +kernel) (Nat.le_of_ble_eq_true rfl) (lv := [(0, .ref (g.2.2 57)), (1, .ref (g.2.2 1))]) rfl ⟨rfl, rfl⟩ ?_
  intro p e s m args below meth c A Q hQ cx
  refine z_aload_n cx d_X5_become_0 1 rfl rfl 1 rfl ?_
  refine z_get cx d_X5_become_1 4 rfl e_N rfl zX5 0 (by decide) q_64 rfl rfl ?_
  refine y_iconst cx d_X5_become_4 5 rfl ?_
  refine z_aload_n cx d_X5_become_5 6 rfl rfl 0 rfl ?_
  refine z_get cx d_X5_become_6 9 rfl e_D8 rfl zX5 0 (by decide) q_64 rfl rfl ?_
  refine y_iconst cx d_X5_become_9 10 rfl ?_
  refine y_bipush cx d_X5_become_10 12 rfl (by decide) ?_
  refine y_copy cx d_X5_become_12 15 rfl q_515 q_517 q_516 q_44 e_N_first e_D8_first (by decide) (by decide) (Nat.le_of_ble_eq_true rfl) (Nat.le_of_ble_eq_true rfl) h (fun _ h9 => s_D8_first h9) (fun D_1 h => ?_)
  refine z_aload_n cx d_X5_become_15 16 rfl rfl 1 rfl ?_
  refine z_get cx d_X5_become_16 19 rfl e_N rfl zX5 1 (by decide) q_68 rfl rfl ?_
  refine y_iconst cx d_X5_become_19 20 rfl ?_
  refine z_aload_n cx d_X5_become_20 21 rfl rfl 0 rfl ?_
  refine z_get cx d_X5_become_21 24 rfl e_D8 rfl zX5 1 (by decide) q_68 rfl rfl ?_
  refine y_iconst cx d_X5_become_24 25 rfl ?_
  refine y_bipush cx d_X5_become_25 27 rfl (by decide) ?_
  refine y_copy cx d_X5_become_27 30 rfl q_515 q_517 q_516 q_44 e_N_second e_D8_second (by decide) (by decide) (Nat.le_of_ble_eq_true rfl) (Nat.le_of_ble_eq_true rfl) h (fun _ h9 => s_D8_second h9) (fun D_2 h => ?_)
  refine z_aload_n cx d_X5_become_30 31 rfl rfl 1 rfl ?_
  refine z_get cx d_X5_become_31 34 rfl e_N rfl zX5 2 (by decide) q_72 rfl rfl ?_
  refine y_iconst cx d_X5_become_34 35 rfl ?_
  refine z_aload_n cx d_X5_become_35 36 rfl rfl 0 rfl ?_
  refine z_get cx d_X5_become_36 39 rfl e_D8 rfl zX5 2 (by decide) q_72 rfl rfl ?_
  refine y_iconst cx d_X5_become_39 40 rfl ?_
  refine y_bipush cx d_X5_become_40 42 rfl (by decide) ?_
  refine y_copy cx d_X5_become_42 45 rfl q_515 q_517 q_516 q_44 e_N_weight e_D8_weight (by decide) (by decide) (Nat.le_of_ble_eq_true rfl) (Nat.le_of_ble_eq_true rfl) h (fun _ h9 => s_D8_weight h9) (fun D_3 h => ?_)
  refine z_aload_n cx d_X5_become_45 46 rfl rfl 1 rfl ?_
  refine z_get cx d_X5_become_46 49 rfl e_N rfl zX5 3 (by decide) q_74 rfl rfl ?_
  refine y_iconst cx d_X5_become_49 50 rfl ?_
  refine z_aload_n cx d_X5_become_50 51 rfl rfl 0 rfl ?_
  refine z_get cx d_X5_become_51 54 rfl e_D8 rfl zX5 3 (by decide) q_74 rfl rfl ?_
  refine y_iconst cx d_X5_become_54 55 rfl ?_
  refine y_bipush cx d_X5_become_55 57 rfl (by decide) ?_
  refine y_copy cx d_X5_become_57 60 rfl q_515 q_517 q_516 q_44 e_N_home e_D8_home (by decide) (by decide) (Nat.le_of_ble_eq_true rfl) (Nat.le_of_ble_eq_true rfl) h (fun _ h9 => s_D8_home h9) (fun D_4 h => ?_)
  refine z_aload_n cx d_X5_become_60 61 rfl rfl 0 rfl ?_
  refine z_aload_n cx d_X5_become_61 62 rfl rfl 1 rfl ?_
  refine z_get cx d_X5_become_62 65 rfl e_N rfl zX5 4 (by decide) q_78 rfl rfl ?_
  refine y_put cx d_X5_become_65 68 rfl e_D8 rfl zX5 tyX5_ok nmX5 4 (by decide) q_78 rfl rfl rfl rfl (Nat.le_of_ble_eq_true rfl) h (fun _ h9 => s_D8_4 h9) (fun D_5 h => ?_)
  refine z_aload_n cx d_X5_become_68 69 rfl rfl 0 rfl ?_
  refine z_aload_n cx d_X5_become_69 70 rfl rfl 1 rfl ?_
  refine z_get cx d_X5_become_70 73 rfl e_N rfl zX5 5 (by decide) q_84 rfl rfl ?_
  refine y_put cx d_X5_become_73 76 rfl e_D8 rfl zX5 tyX5_ok nmX5 5 (by decide) q_84 rfl rfl rfl rfl (Nat.le_of_ble_eq_true rfl) h (fun _ h9 => s_D8_5 h9) (fun D_6 h => ?_)
  refine z_aload_n cx d_X5_become_76 77 rfl rfl 0 rfl ?_
  refine z_aload_n cx d_X5_become_77 78 rfl rfl 1 rfl ?_
  refine z_get cx d_X5_become_78 81 rfl e_N rfl zX5 6 (by decide) q_88 rfl rfl ?_
  refine y_put cx d_X5_become_81 84 rfl e_D8 rfl zX5 tyX5_ok nmX5 6 (by decide) q_88 rfl rfl rfl rfl (Nat.le_of_ble_eq_true rfl) h (fun _ h9 => s_D8_6 h9) (fun D_7 h => ?_)
  refine z_aload_n cx d_X5_become_84 85 rfl rfl 0 rfl ?_
  refine z_aload_n cx d_X5_become_85 86 rfl rfl 1 rfl ?_
  refine z_get cx d_X5_become_86 89 rfl e_N rfl zX5 7 (by decide) q_92 rfl rfl ?_
  refine y_put cx d_X5_become_89 92 rfl e_D8 rfl zX5 tyX5_ok nmX5 7 (by decide) q_92 rfl rfl rfl rfl (Nat.le_of_ble_eq_true rfl) h (fun _ h9 => s_D8_7 h9) (fun D_8 h => ?_)
  refine z_aload_n cx d_X5_become_92 93 rfl rfl 0 rfl ?_
  refine z_aload_n cx d_X5_become_93 94 rfl rfl 1 rfl ?_
  refine z_get cx d_X5_become_94 97 rfl e_N rfl zX5 8 (by decide) q_93 rfl rfl ?_
  refine y_put cx d_X5_become_97 100 rfl e_D8 rfl zX5 tyX5_ok nmX5 8 (by decide) q_93 rfl rfl rfl rfl (Nat.le_of_ble_eq_true rfl) h (fun _ h9 => s_D8_8 h9) (fun D_9 h => ?_)
  subst hQ
  obtain rfl := Option.some.inj h
  exact z_vret cx d_X5_become_100 rfl
set_option maxHeartbeats 4000000 in
theorem tN_become_I0_N {l : Launch} {g : ZG} {X : ZB} {N : ZB} {T : ZB} {Rd : ZB} {Fr : ZB} {Ac : ZA} {Ch : ZB} {PS : ZB} {Ly : ZB} {Pa : ZQ} {OT : ZB} {Ea : ZB} {Ga : ZB} {Im1 : ZO} {La : ZB} {D : ZB} {ad : Nat → Nat} {r : ZB} (h : fN_become D N = some r) : zMv l yX5_become cX5_become 2 none zrN_become g [.ref (ad 0), .ref (g.2.2 1)] (wX g X N T Rd Fr Ac Ch PS Ly Pa OT Ea Ga (some (ad, D)) Im1 La) (wX g X N T Rd Fr Ac Ch PS Ly Pa OT Ea Ga (some (ad, r)) Im1 La) := by
  unfold fN_become at h
  refine zMv_q (own := RX5) rfl (by decide +kernel) (Nat.le_of_ble_eq_true rfl) (lv := [(0, .ref (ad 0)), (1, .ref (g.2.2 1))]) rfl ⟨rfl, rfl⟩ ?_
  intro p e s m args below meth c A Q hQ cx
  refine z_aload_n cx d_X5_become_0 1 rfl rfl 1 rfl ?_
  refine z_get cx d_X5_become_1 4 rfl e_N rfl zX5 0 (by decide) q_64 rfl rfl ?_
  refine y_iconst cx d_X5_become_4 5 rfl ?_
  refine z_aload_n cx d_X5_become_5 6 rfl rfl 0 rfl ?_
  refine z_get cx d_X5_become_6 9 rfl e_I0 rfl zX5 0 (by decide) q_64 rfl rfl ?_
  refine y_iconst cx d_X5_become_9 10 rfl ?_
  refine y_bipush cx d_X5_become_10 12 rfl (by decide) ?_
  refine y_copy cx d_X5_become_12 15 rfl q_515 q_517 q_516 q_44 e_N_first e_I0_first (by decide) (by decide) (Nat.le_of_ble_eq_true rfl) (Nat.le_of_ble_eq_true rfl) h (fun _ h9 => s_I0_first h9) (fun D_1 h => ?_)
  refine z_aload_n cx d_X5_become_15 16 rfl rfl 1 rfl ?_
  refine z_get cx d_X5_become_16 19 rfl e_N rfl zX5 1 (by decide) q_68 rfl rfl ?_
  refine y_iconst cx d_X5_become_19 20 rfl ?_
  refine z_aload_n cx d_X5_become_20 21 rfl rfl 0 rfl ?_
  refine z_get cx d_X5_become_21 24 rfl e_I0 rfl zX5 1 (by decide) q_68 rfl rfl ?_
  refine y_iconst cx d_X5_become_24 25 rfl ?_
  refine y_bipush cx d_X5_become_25 27 rfl (by decide) ?_
  refine y_copy cx d_X5_become_27 30 rfl q_515 q_517 q_516 q_44 e_N_second e_I0_second (by decide) (by decide) (Nat.le_of_ble_eq_true rfl) (Nat.le_of_ble_eq_true rfl) h (fun _ h9 => s_I0_second h9) (fun D_2 h => ?_)
  refine z_aload_n cx d_X5_become_30 31 rfl rfl 1 rfl ?_
  refine z_get cx d_X5_become_31 34 rfl e_N rfl zX5 2 (by decide) q_72 rfl rfl ?_
  refine y_iconst cx d_X5_become_34 35 rfl ?_
  refine z_aload_n cx d_X5_become_35 36 rfl rfl 0 rfl ?_
  refine z_get cx d_X5_become_36 39 rfl e_I0 rfl zX5 2 (by decide) q_72 rfl rfl ?_
  refine y_iconst cx d_X5_become_39 40 rfl ?_
  refine y_bipush cx d_X5_become_40 42 rfl (by decide) ?_
  refine y_copy cx d_X5_become_42 45 rfl q_515 q_517 q_516 q_44 e_N_weight e_I0_weight (by decide) (by decide) (Nat.le_of_ble_eq_true rfl) (Nat.le_of_ble_eq_true rfl) h (fun _ h9 => s_I0_weight h9) (fun D_3 h => ?_)
  refine z_aload_n cx d_X5_become_45 46 rfl rfl 1 rfl ?_
  refine z_get cx d_X5_become_46 49 rfl e_N rfl zX5 3 (by decide) q_74 rfl rfl ?_
  refine y_iconst cx d_X5_become_49 50 rfl ?_
  refine z_aload_n cx d_X5_become_50 51 rfl rfl 0 rfl ?_
  refine z_get cx d_X5_become_51 54 rfl e_I0 rfl zX5 3 (by decide) q_74 rfl rfl ?_
  refine y_iconst cx d_X5_become_54 55 rfl ?_
  refine y_bipush cx d_X5_become_55 57 rfl (by decide) ?_
  refine y_copy cx d_X5_become_57 60 rfl q_515 q_517 q_516 q_44 e_N_home e_I0_home (by decide) (by decide) (Nat.le_of_ble_eq_true rfl) (Nat.le_of_ble_eq_true rfl) h (fun _ h9 => s_I0_home h9) (fun D_4 h => ?_)
  refine z_aload_n cx d_X5_become_60 61 rfl rfl 0 rfl ?_
  refine z_aload_n cx d_X5_become_61 62 rfl rfl 1 rfl ?_
  refine z_get cx d_X5_become_62 65 rfl e_N rfl zX5 4 (by decide) q_78 rfl rfl ?_
  refine y_put cx d_X5_become_65 68 rfl e_I0 rfl zX5 tyX5_ok nmX5 4 (by decide) q_78 rfl rfl rfl rfl (Nat.le_of_ble_eq_true rfl) h (fun _ h9 => s_I0_4 h9) (fun D_5 h => ?_)
  refine z_aload_n cx d_X5_become_68 69 rfl rfl 0 rfl ?_
  refine z_aload_n cx d_X5_become_69 70 rfl rfl 1 rfl ?_
  refine z_get cx d_X5_become_70 73 rfl e_N rfl zX5 5 (by decide) q_84 rfl rfl ?_
  refine y_put cx d_X5_become_73 76 rfl e_I0 rfl zX5 tyX5_ok nmX5 5 (by decide) q_84 rfl rfl rfl rfl (Nat.le_of_ble_eq_true rfl) h (fun _ h9 => s_I0_5 h9) (fun D_6 h => ?_)
  refine z_aload_n cx d_X5_become_76 77 rfl rfl 0 rfl ?_
  refine z_aload_n cx d_X5_become_77 78 rfl rfl 1 rfl ?_
  refine z_get cx d_X5_become_78 81 rfl e_N rfl zX5 6 (by decide) q_88 rfl rfl ?_
  refine y_put cx d_X5_become_81 84 rfl e_I0 rfl zX5 tyX5_ok nmX5 6 (by decide) q_88 rfl rfl rfl rfl (Nat.le_of_ble_eq_true rfl) h (fun _ h9 => s_I0_6 h9) (fun D_7 h => ?_)
  refine z_aload_n cx d_X5_become_84 85 rfl rfl 0 rfl ?_
  refine z_aload_n cx d_X5_become_85 86 rfl rfl 1 rfl ?_
  refine z_get cx d_X5_become_86 89 rfl e_N rfl zX5 7 (by decide) q_92 rfl rfl ?_
  refine y_put cx d_X5_become_89 92 rfl e_I0 rfl zX5 tyX5_ok nmX5 7 (by decide) q_92 rfl rfl rfl rfl (Nat.le_of_ble_eq_true rfl) h (fun _ h9 => s_I0_7 h9) (fun D_8 h => ?_)
  refine z_aload_n cx d_X5_become_92 93 rfl rfl 0 rfl ?_
  refine z_aload_n cx d_X5_become_93 94 rfl rfl 1 rfl ?_
  refine z_get cx d_X5_become_94 97 rfl e_N rfl zX5 8 (by decide) q_93 rfl rfl ?_
  refine y_put cx d_X5_become_97 100 rfl e_I0 rfl zX5 tyX5_ok nmX5 8 (by decide) q_93 rfl rfl rfl rfl (Nat.le_of_ble_eq_true rfl) h (fun _ h9 => s_I0_8 h9) (fun D_9 h => ?_)
  subst hQ
  obtain rfl := Option.some.inj h
  exact z_vret cx d_X5_become_100 rfl
set_option maxHeartbeats 4000000 in
theorem tN_become_N_I0 {l : Launch} {g : ZG} {X : ZB} {N : ZB} {T : ZB} {Rd : ZB} {Fr : ZB} {Ac : ZA} {Ch : ZB} {PS : ZB} {Ly : ZB} {Pa : ZQ} {OT : ZB} {Ea : ZB} {Ga : ZB} {Im1 : ZO} {La : ZB} {S : ZB} {ad : Nat → Nat} {r : ZB} (h : fN_become N S = some r) : zMv l yX5_become cX5_become 2 none zrN_become g [.ref (g.2.2 1), .ref (ad 0)] (wX g X N T Rd Fr Ac Ch PS Ly Pa OT Ea Ga (some (ad, S)) Im1 La) (wX g X r T Rd Fr Ac Ch PS Ly Pa OT Ea Ga (some (ad, S)) Im1 La) := by
  unfold fN_become at h
  refine zMv_q (own := RX5) rfl (by decide +kernel) (Nat.le_of_ble_eq_true rfl) (lv := [(0, .ref (g.2.2 1)), (1, .ref (ad 0))]) rfl ⟨rfl, rfl⟩ ?_
  intro p e s m args below meth c A Q hQ cx
  refine z_aload_n cx d_X5_become_0 1 rfl rfl 1 rfl ?_
  refine z_get cx d_X5_become_1 4 rfl e_I0 rfl zX5 0 (by decide) q_64 rfl rfl ?_
  refine y_iconst cx d_X5_become_4 5 rfl ?_
  refine z_aload_n cx d_X5_become_5 6 rfl rfl 0 rfl ?_
  refine z_get cx d_X5_become_6 9 rfl e_N rfl zX5 0 (by decide) q_64 rfl rfl ?_
  refine y_iconst cx d_X5_become_9 10 rfl ?_
  refine y_bipush cx d_X5_become_10 12 rfl (by decide) ?_
  refine y_copy cx d_X5_become_12 15 rfl q_515 q_517 q_516 q_44 e_I0_first e_N_first (by decide) (by decide) (Nat.le_of_ble_eq_true rfl) (Nat.le_of_ble_eq_true rfl) h (fun _ h9 => s_N_first h9) (fun D_1 h => ?_)
  refine z_aload_n cx d_X5_become_15 16 rfl rfl 1 rfl ?_
  refine z_get cx d_X5_become_16 19 rfl e_I0 rfl zX5 1 (by decide) q_68 rfl rfl ?_
  refine y_iconst cx d_X5_become_19 20 rfl ?_
  refine z_aload_n cx d_X5_become_20 21 rfl rfl 0 rfl ?_
  refine z_get cx d_X5_become_21 24 rfl e_N rfl zX5 1 (by decide) q_68 rfl rfl ?_
  refine y_iconst cx d_X5_become_24 25 rfl ?_
  refine y_bipush cx d_X5_become_25 27 rfl (by decide) ?_
  refine y_copy cx d_X5_become_27 30 rfl q_515 q_517 q_516 q_44 e_I0_second e_N_second (by decide) (by decide) (Nat.le_of_ble_eq_true rfl) (Nat.le_of_ble_eq_true rfl) h (fun _ h9 => s_N_second h9) (fun D_2 h => ?_)
  refine z_aload_n cx d_X5_become_30 31 rfl rfl 1 rfl ?_
  refine z_get cx d_X5_become_31 34 rfl e_I0 rfl zX5 2 (by decide) q_72 rfl rfl ?_
  refine y_iconst cx d_X5_become_34 35 rfl ?_
  refine z_aload_n cx d_X5_become_35 36 rfl rfl 0 rfl ?_
  refine z_get cx d_X5_become_36 39 rfl e_N rfl zX5 2 (by decide) q_72 rfl rfl ?_
  refine y_iconst cx d_X5_become_39 40 rfl ?_
  refine y_bipush cx d_X5_become_40 42 rfl (by decide) ?_
  refine y_copy cx d_X5_become_42 45 rfl q_515 q_517 q_516 q_44 e_I0_weight e_N_weight (by decide) (by decide) (Nat.le_of_ble_eq_true rfl) (Nat.le_of_ble_eq_true rfl) h (fun _ h9 => s_N_weight h9) (fun D_3 h => ?_)
  refine z_aload_n cx d_X5_become_45 46 rfl rfl 1 rfl ?_
  refine z_get cx d_X5_become_46 49 rfl e_I0 rfl zX5 3 (by decide) q_74 rfl rfl ?_
  refine y_iconst cx d_X5_become_49 50 rfl ?_
  refine z_aload_n cx d_X5_become_50 51 rfl rfl 0 rfl ?_
  refine z_get cx d_X5_become_51 54 rfl e_N rfl zX5 3 (by decide) q_74 rfl rfl ?_
  refine y_iconst cx d_X5_become_54 55 rfl ?_
  refine y_bipush cx d_X5_become_55 57 rfl (by decide) ?_
  refine y_copy cx d_X5_become_57 60 rfl q_515 q_517 q_516 q_44 e_I0_home e_N_home (by decide) (by decide) (Nat.le_of_ble_eq_true rfl) (Nat.le_of_ble_eq_true rfl) h (fun _ h9 => s_N_home h9) (fun D_4 h => ?_)
  refine z_aload_n cx d_X5_become_60 61 rfl rfl 0 rfl ?_
  refine z_aload_n cx d_X5_become_61 62 rfl rfl 1 rfl ?_
  refine z_get cx d_X5_become_62 65 rfl e_I0 rfl zX5 4 (by decide) q_78 rfl rfl ?_
  refine y_put cx d_X5_become_65 68 rfl e_N rfl zX5 tyX5_ok nmX5 4 (by decide) q_78 rfl rfl rfl rfl (Nat.le_of_ble_eq_true rfl) h (fun _ h9 => s_N_4 h9) (fun D_5 h => ?_)
  refine z_aload_n cx d_X5_become_68 69 rfl rfl 0 rfl ?_
  refine z_aload_n cx d_X5_become_69 70 rfl rfl 1 rfl ?_
  refine z_get cx d_X5_become_70 73 rfl e_I0 rfl zX5 5 (by decide) q_84 rfl rfl ?_
  refine y_put cx d_X5_become_73 76 rfl e_N rfl zX5 tyX5_ok nmX5 5 (by decide) q_84 rfl rfl rfl rfl (Nat.le_of_ble_eq_true rfl) h (fun _ h9 => s_N_5 h9) (fun D_6 h => ?_)
  refine z_aload_n cx d_X5_become_76 77 rfl rfl 0 rfl ?_
  refine z_aload_n cx d_X5_become_77 78 rfl rfl 1 rfl ?_
  refine z_get cx d_X5_become_78 81 rfl e_I0 rfl zX5 6 (by decide) q_88 rfl rfl ?_
  refine y_put cx d_X5_become_81 84 rfl e_N rfl zX5 tyX5_ok nmX5 6 (by decide) q_88 rfl rfl rfl rfl (Nat.le_of_ble_eq_true rfl) h (fun _ h9 => s_N_6 h9) (fun D_7 h => ?_)
  refine z_aload_n cx d_X5_become_84 85 rfl rfl 0 rfl ?_
  refine z_aload_n cx d_X5_become_85 86 rfl rfl 1 rfl ?_
  refine z_get cx d_X5_become_86 89 rfl e_I0 rfl zX5 7 (by decide) q_92 rfl rfl ?_
  refine y_put cx d_X5_become_89 92 rfl e_N rfl zX5 tyX5_ok nmX5 7 (by decide) q_92 rfl rfl rfl rfl (Nat.le_of_ble_eq_true rfl) h (fun _ h9 => s_N_7 h9) (fun D_8 h => ?_)
  refine z_aload_n cx d_X5_become_92 93 rfl rfl 0 rfl ?_
  refine z_aload_n cx d_X5_become_93 94 rfl rfl 1 rfl ?_
  refine z_get cx d_X5_become_94 97 rfl e_I0 rfl zX5 8 (by decide) q_93 rfl rfl ?_
  refine y_put cx d_X5_become_97 100 rfl e_N rfl zX5 tyX5_ok nmX5 8 (by decide) q_93 rfl rfl rfl rfl (Nat.le_of_ble_eq_true rfl) h (fun _ h9 => s_N_8 h9) (fun D_9 h => ?_)
  subst hQ
  obtain rfl := Option.some.inj h
  exact z_vret cx d_X5_become_100 rfl
set_option maxHeartbeats 4000000 in
theorem tN_become_I1_N {l : Launch} {g : ZG} {X : ZB} {N : ZB} {T : ZB} {Rd : ZB} {Fr : ZB} {Ac : ZA} {Ch : ZB} {PS : ZB} {Ly : ZB} {Pa : ZQ} {OT : ZB} {Ea : ZB} {Ga : ZB} {La : ZB} {D : ZB} {ad : Nat → Nat} {r : ZB} (h : fN_become D N = some r) : zMv l yX5_become cX5_become 2 none zrN_become g [.ref (ad 0), .ref (g.2.2 1)] (wX g X N T Rd Fr Ac Ch PS Ly Pa OT Ea Ga none (some (ad, D)) La) (wX g X N T Rd Fr Ac Ch PS Ly Pa OT Ea Ga none (some (ad, r)) La) := by
  unfold fN_become at h
  refine zMv_q (own := RX5) rfl (by decide +kernel) (Nat.le_of_ble_eq_true rfl) (lv := [(0, .ref (ad 0)), (1, .ref (g.2.2 1))]) rfl ⟨rfl, rfl⟩ ?_
  intro p e s m args below meth c A Q hQ cx
  refine z_aload_n cx d_X5_become_0 1 rfl rfl 1 rfl ?_
  refine z_get cx d_X5_become_1 4 rfl e_N rfl zX5 0 (by decide) q_64 rfl rfl ?_
  refine y_iconst cx d_X5_become_4 5 rfl ?_
  refine z_aload_n cx d_X5_become_5 6 rfl rfl 0 rfl ?_
  refine z_get cx d_X5_become_6 9 rfl e_I1 rfl zX5 0 (by decide) q_64 rfl rfl ?_
  refine y_iconst cx d_X5_become_9 10 rfl ?_
  refine y_bipush cx d_X5_become_10 12 rfl (by decide) ?_
  refine y_copy cx d_X5_become_12 15 rfl q_515 q_517 q_516 q_44 e_N_first e_I1_first (by decide) (by decide) (Nat.le_of_ble_eq_true rfl) (Nat.le_of_ble_eq_true rfl) h (fun _ h9 => s_I1_first h9) (fun D_1 h => ?_)
  refine z_aload_n cx d_X5_become_15 16 rfl rfl 1 rfl ?_
  refine z_get cx d_X5_become_16 19 rfl e_N rfl zX5 1 (by decide) q_68 rfl rfl ?_
  refine y_iconst cx d_X5_become_19 20 rfl ?_
  refine z_aload_n cx d_X5_become_20 21 rfl rfl 0 rfl ?_
  refine z_get cx d_X5_become_21 24 rfl e_I1 rfl zX5 1 (by decide) q_68 rfl rfl ?_
  refine y_iconst cx d_X5_become_24 25 rfl ?_
  refine y_bipush cx d_X5_become_25 27 rfl (by decide) ?_
  refine y_copy cx d_X5_become_27 30 rfl q_515 q_517 q_516 q_44 e_N_second e_I1_second (by decide) (by decide) (Nat.le_of_ble_eq_true rfl) (Nat.le_of_ble_eq_true rfl) h (fun _ h9 => s_I1_second h9) (fun D_2 h => ?_)
  refine z_aload_n cx d_X5_become_30 31 rfl rfl 1 rfl ?_
  refine z_get cx d_X5_become_31 34 rfl e_N rfl zX5 2 (by decide) q_72 rfl rfl ?_
  refine y_iconst cx d_X5_become_34 35 rfl ?_
  refine z_aload_n cx d_X5_become_35 36 rfl rfl 0 rfl ?_
  refine z_get cx d_X5_become_36 39 rfl e_I1 rfl zX5 2 (by decide) q_72 rfl rfl ?_
  refine y_iconst cx d_X5_become_39 40 rfl ?_
  refine y_bipush cx d_X5_become_40 42 rfl (by decide) ?_
  refine y_copy cx d_X5_become_42 45 rfl q_515 q_517 q_516 q_44 e_N_weight e_I1_weight (by decide) (by decide) (Nat.le_of_ble_eq_true rfl) (Nat.le_of_ble_eq_true rfl) h (fun _ h9 => s_I1_weight h9) (fun D_3 h => ?_)
  refine z_aload_n cx d_X5_become_45 46 rfl rfl 1 rfl ?_
  refine z_get cx d_X5_become_46 49 rfl e_N rfl zX5 3 (by decide) q_74 rfl rfl ?_
  refine y_iconst cx d_X5_become_49 50 rfl ?_
  refine z_aload_n cx d_X5_become_50 51 rfl rfl 0 rfl ?_
  refine z_get cx d_X5_become_51 54 rfl e_I1 rfl zX5 3 (by decide) q_74 rfl rfl ?_
  refine y_iconst cx d_X5_become_54 55 rfl ?_
  refine y_bipush cx d_X5_become_55 57 rfl (by decide) ?_
  refine y_copy cx d_X5_become_57 60 rfl q_515 q_517 q_516 q_44 e_N_home e_I1_home (by decide) (by decide) (Nat.le_of_ble_eq_true rfl) (Nat.le_of_ble_eq_true rfl) h (fun _ h9 => s_I1_home h9) (fun D_4 h => ?_)
  refine z_aload_n cx d_X5_become_60 61 rfl rfl 0 rfl ?_
  refine z_aload_n cx d_X5_become_61 62 rfl rfl 1 rfl ?_
  refine z_get cx d_X5_become_62 65 rfl e_N rfl zX5 4 (by decide) q_78 rfl rfl ?_
  refine y_put cx d_X5_become_65 68 rfl e_I1 rfl zX5 tyX5_ok nmX5 4 (by decide) q_78 rfl rfl rfl rfl (Nat.le_of_ble_eq_true rfl) h (fun _ h9 => s_I1_4 h9) (fun D_5 h => ?_)
  refine z_aload_n cx d_X5_become_68 69 rfl rfl 0 rfl ?_
  refine z_aload_n cx d_X5_become_69 70 rfl rfl 1 rfl ?_
  refine z_get cx d_X5_become_70 73 rfl e_N rfl zX5 5 (by decide) q_84 rfl rfl ?_
  refine y_put cx d_X5_become_73 76 rfl e_I1 rfl zX5 tyX5_ok nmX5 5 (by decide) q_84 rfl rfl rfl rfl (Nat.le_of_ble_eq_true rfl) h (fun _ h9 => s_I1_5 h9) (fun D_6 h => ?_)
  refine z_aload_n cx d_X5_become_76 77 rfl rfl 0 rfl ?_
  refine z_aload_n cx d_X5_become_77 78 rfl rfl 1 rfl ?_
  refine z_get cx d_X5_become_78 81 rfl e_N rfl zX5 6 (by decide) q_88 rfl rfl ?_
  refine y_put cx d_X5_become_81 84 rfl e_I1 rfl zX5 tyX5_ok nmX5 6 (by decide) q_88 rfl rfl rfl rfl (Nat.le_of_ble_eq_true rfl) h (fun _ h9 => s_I1_6 h9) (fun D_7 h => ?_)
  refine z_aload_n cx d_X5_become_84 85 rfl rfl 0 rfl ?_
  refine z_aload_n cx d_X5_become_85 86 rfl rfl 1 rfl ?_
  refine z_get cx d_X5_become_86 89 rfl e_N rfl zX5 7 (by decide) q_92 rfl rfl ?_
  refine y_put cx d_X5_become_89 92 rfl e_I1 rfl zX5 tyX5_ok nmX5 7 (by decide) q_92 rfl rfl rfl rfl (Nat.le_of_ble_eq_true rfl) h (fun _ h9 => s_I1_7 h9) (fun D_8 h => ?_)
  refine z_aload_n cx d_X5_become_92 93 rfl rfl 0 rfl ?_
  refine z_aload_n cx d_X5_become_93 94 rfl rfl 1 rfl ?_
  refine z_get cx d_X5_become_94 97 rfl e_N rfl zX5 8 (by decide) q_93 rfl rfl ?_
  refine y_put cx d_X5_become_97 100 rfl e_I1 rfl zX5 tyX5_ok nmX5 8 (by decide) q_93 rfl rfl rfl rfl (Nat.le_of_ble_eq_true rfl) h (fun _ h9 => s_I1_8 h9) (fun D_9 h => ?_)
  subst hQ
  obtain rfl := Option.some.inj h
  exact z_vret cx d_X5_become_100 rfl
set_option maxHeartbeats 4000000 in
theorem tN_become_N_I1 {l : Launch} {g : ZG} {X : ZB} {N : ZB} {T : ZB} {Rd : ZB} {Fr : ZB} {Ac : ZA} {Ch : ZB} {PS : ZB} {Ly : ZB} {Pa : ZQ} {OT : ZB} {Ea : ZB} {Ga : ZB} {La : ZB} {S : ZB} {ad : Nat → Nat} {r : ZB} (h : fN_become N S = some r) : zMv l yX5_become cX5_become 2 none zrN_become g [.ref (g.2.2 1), .ref (ad 0)] (wX g X N T Rd Fr Ac Ch PS Ly Pa OT Ea Ga none (some (ad, S)) La) (wX g X r T Rd Fr Ac Ch PS Ly Pa OT Ea Ga none (some (ad, S)) La) := by
  unfold fN_become at h
  refine zMv_q (own := RX5) rfl (by decide +kernel) (Nat.le_of_ble_eq_true rfl) (lv := [(0, .ref (g.2.2 1)), (1, .ref (ad 0))]) rfl ⟨rfl, rfl⟩ ?_
  intro p e s m args below meth c A Q hQ cx
  refine z_aload_n cx d_X5_become_0 1 rfl rfl 1 rfl ?_
  refine z_get cx d_X5_become_1 4 rfl e_I1 rfl zX5 0 (by decide) q_64 rfl rfl ?_
  refine y_iconst cx d_X5_become_4 5 rfl ?_
  refine z_aload_n cx d_X5_become_5 6 rfl rfl 0 rfl ?_
  refine z_get cx d_X5_become_6 9 rfl e_N rfl zX5 0 (by decide) q_64 rfl rfl ?_
  refine y_iconst cx d_X5_become_9 10 rfl ?_
  refine y_bipush cx d_X5_become_10 12 rfl (by decide) ?_
  refine y_copy cx d_X5_become_12 15 rfl q_515 q_517 q_516 q_44 e_I1_first e_N_first (by decide) (by decide) (Nat.le_of_ble_eq_true rfl) (Nat.le_of_ble_eq_true rfl) h (fun _ h9 => s_N_first h9) (fun D_1 h => ?_)
  refine z_aload_n cx d_X5_become_15 16 rfl rfl 1 rfl ?_
  refine z_get cx d_X5_become_16 19 rfl e_I1 rfl zX5 1 (by decide) q_68 rfl rfl ?_
  refine y_iconst cx d_X5_become_19 20 rfl ?_
  refine z_aload_n cx d_X5_become_20 21 rfl rfl 0 rfl ?_
  refine z_get cx d_X5_become_21 24 rfl e_N rfl zX5 1 (by decide) q_68 rfl rfl ?_
  refine y_iconst cx d_X5_become_24 25 rfl ?_
  refine y_bipush cx d_X5_become_25 27 rfl (by decide) ?_
  refine y_copy cx d_X5_become_27 30 rfl q_515 q_517 q_516 q_44 e_I1_second e_N_second (by decide) (by decide) (Nat.le_of_ble_eq_true rfl) (Nat.le_of_ble_eq_true rfl) h (fun _ h9 => s_N_second h9) (fun D_2 h => ?_)
  refine z_aload_n cx d_X5_become_30 31 rfl rfl 1 rfl ?_
  refine z_get cx d_X5_become_31 34 rfl e_I1 rfl zX5 2 (by decide) q_72 rfl rfl ?_
  refine y_iconst cx d_X5_become_34 35 rfl ?_
  refine z_aload_n cx d_X5_become_35 36 rfl rfl 0 rfl ?_
  refine z_get cx d_X5_become_36 39 rfl e_N rfl zX5 2 (by decide) q_72 rfl rfl ?_
  refine y_iconst cx d_X5_become_39 40 rfl ?_
  refine y_bipush cx d_X5_become_40 42 rfl (by decide) ?_
  refine y_copy cx d_X5_become_42 45 rfl q_515 q_517 q_516 q_44 e_I1_weight e_N_weight (by decide) (by decide) (Nat.le_of_ble_eq_true rfl) (Nat.le_of_ble_eq_true rfl) h (fun _ h9 => s_N_weight h9) (fun D_3 h => ?_)
  refine z_aload_n cx d_X5_become_45 46 rfl rfl 1 rfl ?_
  refine z_get cx d_X5_become_46 49 rfl e_I1 rfl zX5 3 (by decide) q_74 rfl rfl ?_
  refine y_iconst cx d_X5_become_49 50 rfl ?_
  refine z_aload_n cx d_X5_become_50 51 rfl rfl 0 rfl ?_
  refine z_get cx d_X5_become_51 54 rfl e_N rfl zX5 3 (by decide) q_74 rfl rfl ?_
  refine y_iconst cx d_X5_become_54 55 rfl ?_
  refine y_bipush cx d_X5_become_55 57 rfl (by decide) ?_
  refine y_copy cx d_X5_become_57 60 rfl q_515 q_517 q_516 q_44 e_I1_home e_N_home (by decide) (by decide) (Nat.le_of_ble_eq_true rfl) (Nat.le_of_ble_eq_true rfl) h (fun _ h9 => s_N_home h9) (fun D_4 h => ?_)
  refine z_aload_n cx d_X5_become_60 61 rfl rfl 0 rfl ?_
  refine z_aload_n cx d_X5_become_61 62 rfl rfl 1 rfl ?_
  refine z_get cx d_X5_become_62 65 rfl e_I1 rfl zX5 4 (by decide) q_78 rfl rfl ?_
  refine y_put cx d_X5_become_65 68 rfl e_N rfl zX5 tyX5_ok nmX5 4 (by decide) q_78 rfl rfl rfl rfl (Nat.le_of_ble_eq_true rfl) h (fun _ h9 => s_N_4 h9) (fun D_5 h => ?_)
  refine z_aload_n cx d_X5_become_68 69 rfl rfl 0 rfl ?_
  refine z_aload_n cx d_X5_become_69 70 rfl rfl 1 rfl ?_
  refine z_get cx d_X5_become_70 73 rfl e_I1 rfl zX5 5 (by decide) q_84 rfl rfl ?_
  refine y_put cx d_X5_become_73 76 rfl e_N rfl zX5 tyX5_ok nmX5 5 (by decide) q_84 rfl rfl rfl rfl (Nat.le_of_ble_eq_true rfl) h (fun _ h9 => s_N_5 h9) (fun D_6 h => ?_)
  refine z_aload_n cx d_X5_become_76 77 rfl rfl 0 rfl ?_
  refine z_aload_n cx d_X5_become_77 78 rfl rfl 1 rfl ?_
  refine z_get cx d_X5_become_78 81 rfl e_I1 rfl zX5 6 (by decide) q_88 rfl rfl ?_
  refine y_put cx d_X5_become_81 84 rfl e_N rfl zX5 tyX5_ok nmX5 6 (by decide) q_88 rfl rfl rfl rfl (Nat.le_of_ble_eq_true rfl) h (fun _ h9 => s_N_6 h9) (fun D_7 h => ?_)
  refine z_aload_n cx d_X5_become_84 85 rfl rfl 0 rfl ?_
  refine z_aload_n cx d_X5_become_85 86 rfl rfl 1 rfl ?_
  refine z_get cx d_X5_become_86 89 rfl e_I1 rfl zX5 7 (by decide) q_92 rfl rfl ?_
  refine y_put cx d_X5_become_89 92 rfl e_N rfl zX5 tyX5_ok nmX5 7 (by decide) q_92 rfl rfl rfl rfl (Nat.le_of_ble_eq_true rfl) h (fun _ h9 => s_N_7 h9) (fun D_8 h => ?_)
  refine z_aload_n cx d_X5_become_92 93 rfl rfl 0 rfl ?_
  refine z_aload_n cx d_X5_become_93 94 rfl rfl 1 rfl ?_
  refine z_get cx d_X5_become_94 97 rfl e_I1 rfl zX5 8 (by decide) q_93 rfl rfl ?_
  refine y_put cx d_X5_become_97 100 rfl e_N rfl zX5 tyX5_ok nmX5 8 (by decide) q_93 rfl rfl rfl rfl (Nat.le_of_ble_eq_true rfl) h (fun _ h9 => s_N_8 h9) (fun D_9 h => ?_)
  subst hQ
  obtain rfl := Option.some.inj h
  exact z_vret cx d_X5_become_100 rfl
set_option maxHeartbeats 4000000 in
theorem tN_become_I2_N {l : Launch} {g : ZG} {X : ZB} {N : ZB} {T : ZB} {Rd : ZB} {Fr : ZB} {Ac : ZA} {Ch : ZB} {PS : ZB} {Ly : ZB} {Pa : ZQ} {OT : ZB} {Ea : ZB} {Ga : ZB} {La : ZB} {D : ZB} {ad : Nat → Nat} {ad9 : Nat → Nat} {S9 : ZB} {r : ZB} (h : fN_become D N = some r) : zMv l yX5_become cX5_become 2 none zrN_become g [.ref (ad 0), .ref (g.2.2 1)] (wX g X N T Rd Fr Ac Ch PS Ly Pa OT Ea Ga (some (ad9, S9)) (some (ad, D)) La) (wX g X N T Rd Fr Ac Ch PS Ly Pa OT Ea Ga (some (ad9, S9)) (some (ad, r)) La) := by
  unfold fN_become at h
  refine zMv_q (own := RX5) rfl (by decide +kernel) (Nat.le_of_ble_eq_true rfl) (lv := [(0, .ref (ad 0)), (1, .ref (g.2.2 1))]) rfl ⟨rfl, rfl⟩ ?_
  intro p e s m args below meth c A Q hQ cx
  refine z_aload_n cx d_X5_become_0 1 rfl rfl 1 rfl ?_
  refine z_get cx d_X5_become_1 4 rfl e_N rfl zX5 0 (by decide) q_64 rfl rfl ?_
  refine y_iconst cx d_X5_become_4 5 rfl ?_
  refine z_aload_n cx d_X5_become_5 6 rfl rfl 0 rfl ?_
  refine z_get cx d_X5_become_6 9 rfl e_I2 rfl zX5 0 (by decide) q_64 rfl rfl ?_
  refine y_iconst cx d_X5_become_9 10 rfl ?_
  refine y_bipush cx d_X5_become_10 12 rfl (by decide) ?_
  refine y_copy cx d_X5_become_12 15 rfl q_515 q_517 q_516 q_44 e_N_first e_I2_first (by decide) (by decide) (Nat.le_of_ble_eq_true rfl) (Nat.le_of_ble_eq_true rfl) h (fun _ h9 => s_I2_first h9) (fun D_1 h => ?_)
  refine z_aload_n cx d_X5_become_15 16 rfl rfl 1 rfl ?_
  refine z_get cx d_X5_become_16 19 rfl e_N rfl zX5 1 (by decide) q_68 rfl rfl ?_
  refine y_iconst cx d_X5_become_19 20 rfl ?_
  refine z_aload_n cx d_X5_become_20 21 rfl rfl 0 rfl ?_
  refine z_get cx d_X5_become_21 24 rfl e_I2 rfl zX5 1 (by decide) q_68 rfl rfl ?_
  refine y_iconst cx d_X5_become_24 25 rfl ?_
  refine y_bipush cx d_X5_become_25 27 rfl (by decide) ?_
  refine y_copy cx d_X5_become_27 30 rfl q_515 q_517 q_516 q_44 e_N_second e_I2_second (by decide) (by decide) (Nat.le_of_ble_eq_true rfl) (Nat.le_of_ble_eq_true rfl) h (fun _ h9 => s_I2_second h9) (fun D_2 h => ?_)
  refine z_aload_n cx d_X5_become_30 31 rfl rfl 1 rfl ?_
  refine z_get cx d_X5_become_31 34 rfl e_N rfl zX5 2 (by decide) q_72 rfl rfl ?_
  refine y_iconst cx d_X5_become_34 35 rfl ?_
  refine z_aload_n cx d_X5_become_35 36 rfl rfl 0 rfl ?_
  refine z_get cx d_X5_become_36 39 rfl e_I2 rfl zX5 2 (by decide) q_72 rfl rfl ?_
  refine y_iconst cx d_X5_become_39 40 rfl ?_
  refine y_bipush cx d_X5_become_40 42 rfl (by decide) ?_
  refine y_copy cx d_X5_become_42 45 rfl q_515 q_517 q_516 q_44 e_N_weight e_I2_weight (by decide) (by decide) (Nat.le_of_ble_eq_true rfl) (Nat.le_of_ble_eq_true rfl) h (fun _ h9 => s_I2_weight h9) (fun D_3 h => ?_)
  refine z_aload_n cx d_X5_become_45 46 rfl rfl 1 rfl ?_
  refine z_get cx d_X5_become_46 49 rfl e_N rfl zX5 3 (by decide) q_74 rfl rfl ?_
  refine y_iconst cx d_X5_become_49 50 rfl ?_
  refine z_aload_n cx d_X5_become_50 51 rfl rfl 0 rfl ?_
  refine z_get cx d_X5_become_51 54 rfl e_I2 rfl zX5 3 (by decide) q_74 rfl rfl ?_
  refine y_iconst cx d_X5_become_54 55 rfl ?_
  refine y_bipush cx d_X5_become_55 57 rfl (by decide) ?_
  refine y_copy cx d_X5_become_57 60 rfl q_515 q_517 q_516 q_44 e_N_home e_I2_home (by decide) (by decide) (Nat.le_of_ble_eq_true rfl) (Nat.le_of_ble_eq_true rfl) h (fun _ h9 => s_I2_home h9) (fun D_4 h => ?_)
  refine z_aload_n cx d_X5_become_60 61 rfl rfl 0 rfl ?_
  refine z_aload_n cx d_X5_become_61 62 rfl rfl 1 rfl ?_
  refine z_get cx d_X5_become_62 65 rfl e_N rfl zX5 4 (by decide) q_78 rfl rfl ?_
  refine y_put cx d_X5_become_65 68 rfl e_I2 rfl zX5 tyX5_ok nmX5 4 (by decide) q_78 rfl rfl rfl rfl (Nat.le_of_ble_eq_true rfl) h (fun _ h9 => s_I2_4 h9) (fun D_5 h => ?_)
  refine z_aload_n cx d_X5_become_68 69 rfl rfl 0 rfl ?_
  refine z_aload_n cx d_X5_become_69 70 rfl rfl 1 rfl ?_
  refine z_get cx d_X5_become_70 73 rfl e_N rfl zX5 5 (by decide) q_84 rfl rfl ?_
  refine y_put cx d_X5_become_73 76 rfl e_I2 rfl zX5 tyX5_ok nmX5 5 (by decide) q_84 rfl rfl rfl rfl (Nat.le_of_ble_eq_true rfl) h (fun _ h9 => s_I2_5 h9) (fun D_6 h => ?_)
  refine z_aload_n cx d_X5_become_76 77 rfl rfl 0 rfl ?_
  refine z_aload_n cx d_X5_become_77 78 rfl rfl 1 rfl ?_
  refine z_get cx d_X5_become_78 81 rfl e_N rfl zX5 6 (by decide) q_88 rfl rfl ?_
  refine y_put cx d_X5_become_81 84 rfl e_I2 rfl zX5 tyX5_ok nmX5 6 (by decide) q_88 rfl rfl rfl rfl (Nat.le_of_ble_eq_true rfl) h (fun _ h9 => s_I2_6 h9) (fun D_7 h => ?_)
  refine z_aload_n cx d_X5_become_84 85 rfl rfl 0 rfl ?_
  refine z_aload_n cx d_X5_become_85 86 rfl rfl 1 rfl ?_
  refine z_get cx d_X5_become_86 89 rfl e_N rfl zX5 7 (by decide) q_92 rfl rfl ?_
  refine y_put cx d_X5_become_89 92 rfl e_I2 rfl zX5 tyX5_ok nmX5 7 (by decide) q_92 rfl rfl rfl rfl (Nat.le_of_ble_eq_true rfl) h (fun _ h9 => s_I2_7 h9) (fun D_8 h => ?_)
  refine z_aload_n cx d_X5_become_92 93 rfl rfl 0 rfl ?_
  refine z_aload_n cx d_X5_become_93 94 rfl rfl 1 rfl ?_
  refine z_get cx d_X5_become_94 97 rfl e_N rfl zX5 8 (by decide) q_93 rfl rfl ?_
  refine y_put cx d_X5_become_97 100 rfl e_I2 rfl zX5 tyX5_ok nmX5 8 (by decide) q_93 rfl rfl rfl rfl (Nat.le_of_ble_eq_true rfl) h (fun _ h9 => s_I2_8 h9) (fun D_9 h => ?_)
  subst hQ
  obtain rfl := Option.some.inj h
  exact z_vret cx d_X5_become_100 rfl
set_option maxHeartbeats 4000000 in
theorem tN_become_N_I2 {l : Launch} {g : ZG} {X : ZB} {N : ZB} {T : ZB} {Rd : ZB} {Fr : ZB} {Ac : ZA} {Ch : ZB} {PS : ZB} {Ly : ZB} {Pa : ZQ} {OT : ZB} {Ea : ZB} {Ga : ZB} {La : ZB} {S : ZB} {ad : Nat → Nat} {ad9 : Nat → Nat} {S9 : ZB} {r : ZB} (h : fN_become N S = some r) : zMv l yX5_become cX5_become 2 none zrN_become g [.ref (g.2.2 1), .ref (ad 0)] (wX g X N T Rd Fr Ac Ch PS Ly Pa OT Ea Ga (some (ad9, S9)) (some (ad, S)) La) (wX g X r T Rd Fr Ac Ch PS Ly Pa OT Ea Ga (some (ad9, S9)) (some (ad, S)) La) := by
  unfold fN_become at h
  refine zMv_q (own := RX5) rfl (by decide +kernel) (Nat.le_of_ble_eq_true rfl) (lv := [(0, .ref (g.2.2 1)), (1, .ref (ad 0))]) rfl ⟨rfl, rfl⟩ ?_
  intro p e s m args below meth c A Q hQ cx
  refine z_aload_n cx d_X5_become_0 1 rfl rfl 1 rfl ?_
  refine z_get cx d_X5_become_1 4 rfl e_I2 rfl zX5 0 (by decide) q_64 rfl rfl ?_
  refine y_iconst cx d_X5_become_4 5 rfl ?_
  refine z_aload_n cx d_X5_become_5 6 rfl rfl 0 rfl ?_
  refine z_get cx d_X5_become_6 9 rfl e_N rfl zX5 0 (by decide) q_64 rfl rfl ?_
  refine y_iconst cx d_X5_become_9 10 rfl ?_
  refine y_bipush cx d_X5_become_10 12 rfl (by decide) ?_
  refine y_copy cx d_X5_become_12 15 rfl q_515 q_517 q_516 q_44 e_I2_first e_N_first (by decide) (by decide) (Nat.le_of_ble_eq_true rfl) (Nat.le_of_ble_eq_true rfl) h (fun _ h9 => s_N_first h9) (fun D_1 h => ?_)
  refine z_aload_n cx d_X5_become_15 16 rfl rfl 1 rfl ?_
  refine z_get cx d_X5_become_16 19 rfl e_I2 rfl zX5 1 (by decide) q_68 rfl rfl ?_
  refine y_iconst cx d_X5_become_19 20 rfl ?_
  refine z_aload_n cx d_X5_become_20 21 rfl rfl 0 rfl ?_
  refine z_get cx d_X5_become_21 24 rfl e_N rfl zX5 1 (by decide) q_68 rfl rfl ?_
  refine y_iconst cx d_X5_become_24 25 rfl ?_
  refine y_bipush cx d_X5_become_25 27 rfl (by decide) ?_
  refine y_copy cx d_X5_become_27 30 rfl q_515 q_517 q_516 q_44 e_I2_second e_N_second (by decide) (by decide) (Nat.le_of_ble_eq_true rfl) (Nat.le_of_ble_eq_true rfl) h (fun _ h9 => s_N_second h9) (fun D_2 h => ?_)
  refine z_aload_n cx d_X5_become_30 31 rfl rfl 1 rfl ?_
  refine z_get cx d_X5_become_31 34 rfl e_I2 rfl zX5 2 (by decide) q_72 rfl rfl ?_
  refine y_iconst cx d_X5_become_34 35 rfl ?_
  refine z_aload_n cx d_X5_become_35 36 rfl rfl 0 rfl ?_
  refine z_get cx d_X5_become_36 39 rfl e_N rfl zX5 2 (by decide) q_72 rfl rfl ?_
  refine y_iconst cx d_X5_become_39 40 rfl ?_
  refine y_bipush cx d_X5_become_40 42 rfl (by decide) ?_
  refine y_copy cx d_X5_become_42 45 rfl q_515 q_517 q_516 q_44 e_I2_weight e_N_weight (by decide) (by decide) (Nat.le_of_ble_eq_true rfl) (Nat.le_of_ble_eq_true rfl) h (fun _ h9 => s_N_weight h9) (fun D_3 h => ?_)
  refine z_aload_n cx d_X5_become_45 46 rfl rfl 1 rfl ?_
  refine z_get cx d_X5_become_46 49 rfl e_I2 rfl zX5 3 (by decide) q_74 rfl rfl ?_
  refine y_iconst cx d_X5_become_49 50 rfl ?_
  refine z_aload_n cx d_X5_become_50 51 rfl rfl 0 rfl ?_
  refine z_get cx d_X5_become_51 54 rfl e_N rfl zX5 3 (by decide) q_74 rfl rfl ?_
  refine y_iconst cx d_X5_become_54 55 rfl ?_
  refine y_bipush cx d_X5_become_55 57 rfl (by decide) ?_
  refine y_copy cx d_X5_become_57 60 rfl q_515 q_517 q_516 q_44 e_I2_home e_N_home (by decide) (by decide) (Nat.le_of_ble_eq_true rfl) (Nat.le_of_ble_eq_true rfl) h (fun _ h9 => s_N_home h9) (fun D_4 h => ?_)
  refine z_aload_n cx d_X5_become_60 61 rfl rfl 0 rfl ?_
  refine z_aload_n cx d_X5_become_61 62 rfl rfl 1 rfl ?_
  refine z_get cx d_X5_become_62 65 rfl e_I2 rfl zX5 4 (by decide) q_78 rfl rfl ?_
  refine y_put cx d_X5_become_65 68 rfl e_N rfl zX5 tyX5_ok nmX5 4 (by decide) q_78 rfl rfl rfl rfl (Nat.le_of_ble_eq_true rfl) h (fun _ h9 => s_N_4 h9) (fun D_5 h => ?_)
  refine z_aload_n cx d_X5_become_68 69 rfl rfl 0 rfl ?_
  refine z_aload_n cx d_X5_become_69 70 rfl rfl 1 rfl ?_
  refine z_get cx d_X5_become_70 73 rfl e_I2 rfl zX5 5 (by decide) q_84 rfl rfl ?_
  refine y_put cx d_X5_become_73 76 rfl e_N rfl zX5 tyX5_ok nmX5 5 (by decide) q_84 rfl rfl rfl rfl (Nat.le_of_ble_eq_true rfl) h (fun _ h9 => s_N_5 h9) (fun D_6 h => ?_)
  refine z_aload_n cx d_X5_become_76 77 rfl rfl 0 rfl ?_
  refine z_aload_n cx d_X5_become_77 78 rfl rfl 1 rfl ?_
  refine z_get cx d_X5_become_78 81 rfl e_I2 rfl zX5 6 (by decide) q_88 rfl rfl ?_
  refine y_put cx d_X5_become_81 84 rfl e_N rfl zX5 tyX5_ok nmX5 6 (by decide) q_88 rfl rfl rfl rfl (Nat.le_of_ble_eq_true rfl) h (fun _ h9 => s_N_6 h9) (fun D_7 h => ?_)
  refine z_aload_n cx d_X5_become_84 85 rfl rfl 0 rfl ?_
  refine z_aload_n cx d_X5_become_85 86 rfl rfl 1 rfl ?_
  refine z_get cx d_X5_become_86 89 rfl e_I2 rfl zX5 7 (by decide) q_92 rfl rfl ?_
  refine y_put cx d_X5_become_89 92 rfl e_N rfl zX5 tyX5_ok nmX5 7 (by decide) q_92 rfl rfl rfl rfl (Nat.le_of_ble_eq_true rfl) h (fun _ h9 => s_N_7 h9) (fun D_8 h => ?_)
  refine z_aload_n cx d_X5_become_92 93 rfl rfl 0 rfl ?_
  refine z_aload_n cx d_X5_become_93 94 rfl rfl 1 rfl ?_
  refine z_get cx d_X5_become_94 97 rfl e_I2 rfl zX5 8 (by decide) q_93 rfl rfl ?_
  refine y_put cx d_X5_become_97 100 rfl e_N rfl zX5 tyX5_ok nmX5 8 (by decide) q_93 rfl rfl rfl rfl (Nat.le_of_ble_eq_true rfl) h (fun _ h9 => s_N_8 h9) (fun D_9 h => ?_)
  subst hQ
  obtain rfl := Option.some.inj h
  exact z_vret cx d_X5_become_100 rfl
theorem e_K {g : ZG} {X : ZB} {N : ZB} {T : ZB} {Rd : ZB} {Fr : ZB} {Ac : ZA} {Ch : ZB} {PS : ZB} {Ly : ZB} {Pa : ZQ} {OT : ZB} {Ea : ZB} {Ga : ZB} {Im0 : ZO} {Im1 : ZO} {La : ZB} {j : Nat} (hj : j < 9) : (wX g X N T Rd Fr Ac Ch PS Ly Pa OT Ea Ga Im0 Im1 La)[17 + 5 * j]? = some (g.2.2 (17 + 5 * j), .inr (5, [.ref (g.2.2 (18 + 5 * j)), .ref (g.2.2 (19 + 5 * j)), .ref (g.2.2 (20 + 5 * j)), .ref (g.2.2 (21 + 5 * j)), .int (zI ((Ac.2 j).1 4)), .int (zI ((Ac.2 j).1 5)), .int (zI ((Ac.2 j).1 6)), .int (zI ((Ac.2 j).1 7)), .int (zI ((Ac.2 j).1 8))])) := by
  rcases (show j = 0 ∨ j = 1 ∨ j = 2 ∨ j = 3 ∨ j = 4 ∨ j = 5 ∨ j = 6 ∨ j = 7 ∨ j = 8 by omega) with rfl | rfl | rfl | rfl | rfl | rfl | rfl | rfl | rfl <;> rfl
theorem tN_become_N_K {l : Launch} {g : ZG} {X : ZB} {N : ZB} {T : ZB} {Rd : ZB} {Fr : ZB} {Ac : ZA} {Ch : ZB} {PS : ZB} {Ly : ZB} {Pa : ZQ} {OT : ZB} {Ea : ZB} {Ga : ZB} {Im0 : ZO} {Im1 : ZO} {La : ZB} {j : Nat} (hj : j < 9) {r : ZB} (h : fN_become N (Ac.2 j) = some r) : zMv l yX5_become cX5_become 2 none zrN_become g [.ref (g.2.2 1), .ref (g.2.2 (17 + 5 * j))] (wX g X N T Rd Fr Ac Ch PS Ly Pa OT Ea Ga Im0 Im1 La) (wX g X r T Rd Fr Ac Ch PS Ly Pa OT Ea Ga Im0 Im1 La) := by
  rcases (show j = 0 ∨ j = 1 ∨ j = 2 ∨ j = 3 ∨ j = 4 ∨ j = 5 ∨ j = 6 ∨ j = 7 ∨ j = 8 by omega) with rfl | rfl | rfl | rfl | rfl | rfl | rfl | rfl | rfl
  · exact tN_become_N_K0 h
  · exact tN_become_N_K1 h
  · exact tN_become_N_K2 h
  · exact tN_become_N_K3 h
  · exact tN_become_N_K4 h
  · exact tN_become_N_K5 h
  · exact tN_become_N_K6 h
  · exact tN_become_N_K7 h
  · exact tN_become_N_K8 h
theorem tN_become_K_N {l : Launch} {g : ZG} {X : ZB} {N : ZB} {T : ZB} {Rd : ZB} {Fr : ZB} {Ac : ZA} {Ch : ZB} {PS : ZB} {Ly : ZB} {Pa : ZQ} {OT : ZB} {Ea : ZB} {Ga : ZB} {Im0 : ZO} {Im1 : ZO} {La : ZB} {j : Nat} (hj : j < 9) {r : ZB} (h : fN_become (Ac.2 j) N = some r) : zMv l yX5_become cX5_become 2 none zrN_become g [.ref (g.2.2 (17 + 5 * j)), .ref (g.2.2 1)] (wX g X N T Rd Fr Ac Ch PS Ly Pa OT Ea Ga Im0 Im1 La) (wX g X N T Rd Fr (Ac.1, ua Ac.2 j r) Ch PS Ly Pa OT Ea Ga Im0 Im1 La) := by
  rcases (show j = 0 ∨ j = 1 ∨ j = 2 ∨ j = 3 ∨ j = 4 ∨ j = 5 ∨ j = 6 ∨ j = 7 ∨ j = 8 by omega) with rfl | rfl | rfl | rfl | rfl | rfl | rfl | rfl | rfl
  · have q := tN_become_K0_N (l := l) (g := g) (X := X) (N := N) (T := T) (Rd := Rd) (Fr := Fr) (Ac := Ac) (Ch := Ch) (PS := PS) (Ly := Ly) (Pa := Pa) (OT := OT) (Ea := Ea) (Ga := Ga) (Im0 := Im0) (Im1 := Im1) (La := La) h
    rw [ua_self] at q
    exact q
  · have q := tN_become_K1_N (l := l) (g := g) (X := X) (N := N) (T := T) (Rd := Rd) (Fr := Fr) (Ac := Ac) (Ch := Ch) (PS := PS) (Ly := Ly) (Pa := Pa) (OT := OT) (Ea := Ea) (Ga := Ga) (Im0 := Im0) (Im1 := Im1) (La := La) h
    rw [ua_self] at q
    exact q
  · have q := tN_become_K2_N (l := l) (g := g) (X := X) (N := N) (T := T) (Rd := Rd) (Fr := Fr) (Ac := Ac) (Ch := Ch) (PS := PS) (Ly := Ly) (Pa := Pa) (OT := OT) (Ea := Ea) (Ga := Ga) (Im0 := Im0) (Im1 := Im1) (La := La) h
    rw [ua_self] at q
    exact q
  · have q := tN_become_K3_N (l := l) (g := g) (X := X) (N := N) (T := T) (Rd := Rd) (Fr := Fr) (Ac := Ac) (Ch := Ch) (PS := PS) (Ly := Ly) (Pa := Pa) (OT := OT) (Ea := Ea) (Ga := Ga) (Im0 := Im0) (Im1 := Im1) (La := La) h
    rw [ua_self] at q
    exact q
  · have q := tN_become_K4_N (l := l) (g := g) (X := X) (N := N) (T := T) (Rd := Rd) (Fr := Fr) (Ac := Ac) (Ch := Ch) (PS := PS) (Ly := Ly) (Pa := Pa) (OT := OT) (Ea := Ea) (Ga := Ga) (Im0 := Im0) (Im1 := Im1) (La := La) h
    rw [ua_self] at q
    exact q
  · have q := tN_become_K5_N (l := l) (g := g) (X := X) (N := N) (T := T) (Rd := Rd) (Fr := Fr) (Ac := Ac) (Ch := Ch) (PS := PS) (Ly := Ly) (Pa := Pa) (OT := OT) (Ea := Ea) (Ga := Ga) (Im0 := Im0) (Im1 := Im1) (La := La) h
    rw [ua_self] at q
    exact q
  · have q := tN_become_K6_N (l := l) (g := g) (X := X) (N := N) (T := T) (Rd := Rd) (Fr := Fr) (Ac := Ac) (Ch := Ch) (PS := PS) (Ly := Ly) (Pa := Pa) (OT := OT) (Ea := Ea) (Ga := Ga) (Im0 := Im0) (Im1 := Im1) (La := La) h
    rw [ua_self] at q
    exact q
  · have q := tN_become_K7_N (l := l) (g := g) (X := X) (N := N) (T := T) (Rd := Rd) (Fr := Fr) (Ac := Ac) (Ch := Ch) (PS := PS) (Ly := Ly) (Pa := Pa) (OT := OT) (Ea := Ea) (Ga := Ga) (Im0 := Im0) (Im1 := Im1) (La := La) h
    rw [ua_self] at q
    exact q
  · have q := tN_become_K8_N (l := l) (g := g) (X := X) (N := N) (T := T) (Rd := Rd) (Fr := Fr) (Ac := Ac) (Ch := Ch) (PS := PS) (Ly := Ly) (Pa := Pa) (OT := OT) (Ea := Ea) (Ga := Ga) (Im0 := Im0) (Im1 := Im1) (La := La) h
    rw [ua_self] at q
    exact q
theorem tRd_told {l : Launch} {g : ZG} {X : ZB} {N : ZB} {T : ZB} {Rd : ZB} {Fr : ZB} {Ac : ZA} {Ch : ZB} {PS : ZB} {Ly : ZB} {Pa : ZQ} {OT : ZB} {Ea : ZB} {Ga : ZB} {Im0 : ZO} {Im1 : ZO} {La : ZB} : zMr l yX9_told cX9_told 1 (some (.object "ForestPacks$Net")) zr0 g [.ref (g.2.2 8)] (wX g X N T Rd Fr Ac Ch PS Ly Pa OT Ea Ga Im0 Im1 La) (wX g X N T Rd Fr Ac Ch PS Ly Pa OT Ea Ga Im0 Im1 La) (g.2.2 10) := by
  refine zMr_q (own := RX9) rfl (by decide +kernel) (Nat.le_of_ble_eq_true rfl) (lv := [(0, .ref (g.2.2 8))]) rfl ⟨rfl, rfl⟩ ?_
  intro p e s m args below meth c A Q hQ cx
  subst hQ
  refine z_aload_n cx d_X9_told_0 1 rfl rfl 0 rfl ?_
  refine z_get cx d_X9_told_1 4 rfl e_Rd rfl zX9 1 (by decide) q_194 rfl rfl ?_
  exact z_aret cx d_X9_told_4 rfl
