-- needs: 18.xyrow
set_option maxHeartbeats 4000000 in
theorem tL_put {l : Launch} {g : ZG} {X : ZB} {N : ZB} {T : ZB} {Rd : ZB} {Fr : ZB} {Ac : ZA} {Ch : ZB} {PS : ZB} {Ly : ZB} {Pa : ZQ} {OT : ZB} {Ea : ZB} {Ga : ZB} {Im0 : ZO} {Im1 : ZO} {La : ZB} {a2 : Int} {a3 : Int} {r : Int × ZB} (h : fL_put La a2 a3 = some r) : zMi l yL_put cL_put 4 (some .int) zr0 g [.ref (g.2.2 91), .int (zI a2), .int (zI a3)] (wX g X N T Rd Fr Ac Ch PS Ly Pa OT Ea Ga Im0 Im1 La) (wX g X N T Rd Fr Ac Ch PS Ly Pa OT Ea Ga Im0 Im1 r.2) (zI r.1) := by
  unfold fL_put at h
  refine zMi_q (own := RL) rfl (by decide +kernel) (Nat.le_of_ble_eq_true rfl) (lv := [(0, .ref (g.2.2 91)), (1, .int (zI a2)), (2, .int (zI a3))]) rfl ⟨rfl, rfl⟩ ?_
  intro p e s m args below meth c A Q hQ cx
  refine y_bipush cx d_L_put_0 2 rfl (by decide) ?_
  refine y_bipush cx d_L_put_2 4 rfl (by decide) ?_
  refine z_iload_n cx d_L_put_4 5 rfl rfl 1 rfl ?_
  refine y_iconst cx d_L_put_5 6 rfl ?_
  refine y_iand cx d_L_put_6 7 rfl ?_
  refine y_imul cx d_L_put_7 8 rfl ?_
  refine y_isub cx d_L_put_8 9 rfl ?_
  refine y_istore_n_b cx d_L_put_9 10 rfl rfl (by decide) (fun y => [(3, .int (zI y)), (0, .ref (g.2.2 91)), (1, .int (zI a2)), (2, .int (zI a3))]) (fun y => rfl) h (fun v3_1 h => ?_)
  refine z_aload_n cx d_L_put_10 11 rfl rfl 1 rfl ?_
  refine z_iload_n cx d_L_put_11 12 rfl rfl 2 rfl ?_
  refine y_iconst cx d_L_put_12 13 rfl ?_
  refine y_ishr cx d_L_put_13 14 rfl ?_
  refine z_aload_n cx d_L_put_14 15 rfl rfl 1 rfl ?_
  refine z_iload_n cx d_L_put_15 16 rfl rfl 2 rfl ?_
  refine y_iconst cx d_L_put_16 17 rfl ?_
  refine y_ishr cx d_L_put_17 18 rfl ?_
  refine y_ialdx cx d_L_put_18 19 rfl e_La_t (by decide) h (fun x_2 h => ?_)
  refine y_sipush cx d_L_put_19 22 rfl (by decide) ?_
  refine z_iload_n cx d_L_put_22 23 rfl rfl 0 rfl ?_
  refine y_ishl cx d_L_put_23 24 rfl ?_
  refine y_iconst cx d_L_put_24 25 rfl ?_
  refine y_ixor cx d_L_put_25 26 rfl ?_
  refine y_iand cx d_L_put_26 27 rfl ?_
  refine z_iload_n cx d_L_put_27 28 rfl rfl 3 rfl ?_
  refine y_sipush cx d_L_put_28 31 rfl (by decide) ?_
  refine y_iand cx d_L_put_31 32 rfl ?_
  refine z_iload_n cx d_L_put_32 33 rfl rfl 0 rfl ?_
  refine y_ishl cx d_L_put_33 34 rfl ?_
  refine y_ior cx d_L_put_34 35 rfl ?_
  refine y_iast cx d_L_put_35 36 rfl e_La_t (by decide) h (fun _ h9 => s_La_t h9) (fun La_3 h => ?_)
  refine z_iload_n cx d_L_put_36 37 rfl rfl 2 rfl ?_
  refine y_iconst cx d_L_put_37 38 rfl ?_
  refine y_iadd cx d_L_put_38 39 rfl ?_
  subst hQ
  obtain rfl := Option.some.inj h
  exact z_iret cx d_L_put_39 rfl rfl
