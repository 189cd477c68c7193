-- needs: 18.xyrow 16.str
/-! its and add: by hand, laid by program -/
def zrL_its : Room := { frames := 2, cells := 0, slots := 0, locals := 43 }
def zrL_itsT : Room := { frames := 8, cells := 1, slots := 6, locals := 200 }
theorem q_614 : Cond.code yX11_line prog_1_method_7_code 3 (some .int) ∈ zT := zin 614 (by decide +kernel) (by decide +kernel)
theorem kk_X11_line : zK yX11_line cX11_line 3 (some .int) 2 := ⟨q_614, q_27, by decide +kernel, by decide +kernel, by decide +kernel⟩
set_option maxHeartbeats 4000000 in
theorem tL_its {l : Launch} {g : ZG} {X : ZB} {N : ZB} {T : ZB} {Rd : ZB} {Fr : ZB} {Ac : ZA} {Ch : ZB} {PS : ZB} {Ly : ZB} {Pa : ZQ} {OT : ZB} {Ea : ZB} {Ga : ZB} {Im0 : ZO} {Im1 : ZO} {La : ZB} {a1 a2 a3 : Int} {r : Int} (h : fL_its N a1 a2 a3 = some r) : zMh l yL_its cL_its 5 [(0, 19, 20, 40)] zrL_its g [.ref (g.2.2 0), .int (zI a1), .int (zI a2), .int (zI a3)] (wX g X N T Rd Fr Ac Ch PS Ly Pa OT Ea Ga Im0 Im1 La) (wX g X N T Rd Fr Ac Ch PS Ly Pa OT Ea Ga Im0 Im1 La) (zI r) := by
  unfold fL_its at h
  refine zMh_of (own := "ForestPacksLaw") rfl (by decide +kernel) (Nat.le_of_ble_eq_true rfl) (lv := [(0, .ref (g.2.2 0)), (1, .int (zI a1)), (2, .int (zI a2)), (3, .int (zI a3))]) rfl ?_
  intro p e s m args below meth c A Q hQ cx
  refine z_iload_n cx d_L_its_0 1 rfl rfl 1 rfl ?_
  by_cases h0 : nm a1 = 0
  · rw [if_pos h0] at h
    refine y_if_ne (a := some ()) (b := (none : Option Unit)) (r := ()) (x := a1) cx d_L_its_1 4 rfl 13 (by decide) rfl (by rw [if_pos h0]) (fun h => by cases h) (fun _ => ?_)
    refine z_aload_n cx d_L_its_4 5 rfl rfl 0 rfl ?_
    refine z_iload_n cx d_L_its_5 6 rfl rfl 2 rfl ?_
    refine z_iload_n cx d_L_its_6 7 rfl rfl 3 rfl ?_
    refine z_callV_i (As := [.int (zI a2), .int (zI a3)]) (rest := []) (rm := zrX_lineN) cx (tX_lineN h) d_L_its_7 10 rfl kk_X11_line q_611 q_612 q_613 rfl e_X rfl ⟨rfl, rfl⟩ ⟨Nat.le_of_ble_eq_true rfl, Nat.le_of_ble_eq_true rfl⟩ rfl rfl (Nat.le_of_ble_eq_true rfl) ⟨Nat.zero_le _, Nat.zero_le _⟩ ?_
    refine z_goto cx d_L_its_10 19 (by decide) ?_
    subst hQ
    exact z_iret cx d_L_its_19 rfl rfl
  · rw [if_neg h0] at h; cases h
theorem q_lcl : Cond.classLink "ForestPacksLaw" 40 "java/util/NoSuchElementException" ∈ zT := zin 610 (by decide +kernel) (by decide +kernel)
set_option maxHeartbeats 4000000 in
theorem tL_itsT {l : Launch} {ks : ZS} {g : ZG} {X : ZB} {N : ZB} {T : ZB} {Rd : ZB} {Fr : ZB} {Ac : ZA} {Ch : ZB} {PS : ZB} {Ly : ZB} {Pa : ZQ} {OT : ZB} {Ea : ZB} {Ga : ZB} {Im0 : ZO} {Im1 : ZO} {La : ZB} {a1 a2 a3 : Int} {r : Int} (h : fL_itsT N a1 a2 a3 = some r) (hl9 : l.stackTraces = false) : zMw l ks yL_its cL_its 5 [(0, 19, 20, 40)] zrL_itsT g [.ref (g.2.2 0), .int (zI a1), .int (zI a2), .int (zI a3)] (wX g X N T Rd Fr Ac Ch PS Ly Pa OT Ea Ga Im0 Im1 La) (wX g X N T Rd Fr Ac Ch PS Ly Pa OT Ea Ga Im0 Im1 La) (zI r) := by
  unfold fL_itsT at h
  refine zMw_of (own := "ForestPacksLaw") rfl (by decide +kernel) (Nat.le_of_ble_eq_true rfl) (lv := [(0, .ref (g.2.2 0)), (1, .int (zI a1)), (2, .int (zI a2)), (3, .int (zI a3))]) rfl ?_
  intro p e s m args below meth c A Q hQ cx hE htab
  refine z_iload_n cx d_L_its_0 1 rfl rfl 1 rfl ?_
  by_cases h0 : nm a1 = 0
  · rw [if_pos h0] at h
    obtain ⟨u, hu, h⟩ := bd_i h
    obtain ⟨h1, h2⟩ := ite_s h
    refine y_if_ne (a := some ()) (b := (none : Option Unit)) (r := ()) (x := a1) cx d_L_its_1 4 rfl 13 (by decide) rfl (by rw [if_pos h0]) (fun h => by cases h) (fun _ => ?_)
    refine z_aload_n cx d_L_its_4 5 rfl rfl 0 rfl ?_
    refine z_iload_n cx d_L_its_5 6 rfl rfl 2 rfl ?_
    refine z_iload_n cx d_L_its_6 7 rfl rfl 3 rfl ?_
    refine z_callX (As := [.int (zI a2), .int (zI a3)]) (rest := []) (wr := []) cx hE (tX_line hu hl9) d_L_its_7 10 rfl kk_X11_line q_611 q_612 q_613 rfl e_X rfl (List.append_nil _).symm ⟨Nat.le_of_ble_eq_true rfl, Nat.le_of_ble_eq_true rfl⟩ rfl rfl (Nat.le_of_ble_eq_true rfl) ⟨Nat.le_of_ble_eq_true rfl, Nat.le_of_ble_eq_true rfl⟩ ⟨0, 19, 20, 40⟩ htab (by decide) (by decide) q_lcl (fun hk => ?_) (fun hk q => ?_)
    · exact absurd (h1.symm.trans hk) (by decide)
    · refine z_astore (x := q) cx d_L_its_20 22 rfl (by decide) (lv' := [(4, .ref q), (0, .ref (g.2.2 0)), (1, .int (zI a1)), (2, .int (zI a2)), (3, .int (zI a3))]) rfl rfl ?_
      refine y_sipush cx d_L_its_22 25 rfl (by decide) ?_
      subst hQ
      refine z_iret cx d_L_its_25 (by rw [← h2]) (List.append_nil _)
  · rw [if_neg h0] at h; cases h
def zrL_add : Room := { frames := 4, cells := 0, slots := 0, locals := 200 }
/- add: 0:iload_1 1:istore_3 2:iconst_0 3:istore4 5:iload4 7:aload_2 8:invokevirtual#7 11:if_icmpge32 14:aload_0 15:iload_3 16:aload_2 17:iload4 19:invokevirtual#13 22:invokestatic#17 25:istore_3 26:iinc4,1 29:goto5 32:iload_3 33:ireturn -/
set_option maxHeartbeats 4000000 in
theorem tL_add3 {l : Launch} {ks : ZS} {g : ZG} {X : ZB} {N : ZB} {T : ZB} {Rd : ZB} {Fr : ZB} {Ac : ZA} {Ch : ZB} {PS : ZB} {Ly : ZB} {Pa : ZQ} {OT : ZB} {Ea : ZB} {Ga : ZB} {Im0 : ZO} {Im1 : ZO} {La : ZB} {a2 : Int} {r : Int × ZB} (h : fL_add3 La a2 = some r) : zMe l ks yL_add cL_add 5 (some .int) zrL_add 0 0 g [.ref (g.2.2 91), .int (zI a2), .ref (ks.1 3)] (wX g X N T Rd Fr Ac Ch PS Ly Pa OT Ea Ga Im0 Im1 La) (wX g X N T Rd Fr Ac Ch PS Ly Pa OT Ea Ga Im0 Im1 r.2) (zI r.1) := by
  unfold fL_add3 fL_adds at h
  refine zMe_of (own := RL) rfl (by decide +kernel) (Nat.le_of_ble_eq_true rfl) (lv := [(0, .ref (g.2.2 91)), (1, .int (zI a2)), (2, .ref (ks.1 3))]) rfl ?_
  intro p e s m args below meth c A Q hQ cx hE
  refine z_iload_n cx d_L_add_0 1 rfl rfl 1 rfl ?_
  refine y_istore_n cx d_L_add_1 2 rfl rfl (by decide) (lv' := [(3, .int (zI a2)), (0, .ref (g.2.2 91)), (1, .int (zI a2)), (2, .ref (ks.1 3))]) rfl ?_
  refine y_iconst cx d_L_add_2 3 rfl ?_
  refine y_istore cx d_L_add_3 5 rfl (by decide) (lv' := [(4, .int (zI 0)), (3, .int (zI a2)), (0, .ref (g.2.2 91)), (1, .int (zI a2)), (2, .ref (ks.1 3))]) rfl ?_
  refine z_iload cx d_L_add_5 7 rfl 0 rfl ?_
  refine z_aload_n cx d_L_add_7 8 rfl rfl 4 rfl ?_
  refine z_callVs_i (As := []) (rest := [.int (zI 0)]) cx hE (tJ_length (i := 3) (v := zI 6) (by decide) (by decide)) d_L_add_8 11 rfl kJ_length q_697 q_140 q_141 rfl (hE.2.1.1 3 (by decide)).1 ⟨rfl, rfl⟩ ⟨Nat.le_of_ble_eq_true rfl, Nat.le_of_ble_eq_true rfl⟩ rfl rfl (Nat.le_of_ble_eq_true rfl) ⟨Nat.zero_le _, Nat.zero_le _⟩ ?_
  refine z_icmp_ge cx d_L_add_11 14 rfl 32 (by decide) (fun h => absurd h (by decide)) (fun _ => ?_)
  refine z_aload_n cx d_L_add_14 15 rfl rfl 2 rfl ?_
  refine z_iload_n cx d_L_add_15 16 rfl rfl 1 rfl ?_
  refine z_aload_n cx d_L_add_16 17 rfl rfl 4 rfl ?_
  refine z_iload cx d_L_add_17 19 rfl 0 rfl ?_
  refine z_callVs_i (As := [.int (zI 0)]) (rest := [.int (zI a2), .ref (g.2.2 91)]) cx hE (tJ_charAt (i := 3) (v := zI 112) (by decide) (by decide) (by decide) (vp_in_iff.mpr (by decide)) (by decide) (by decide)) d_L_add_19 22 rfl kJ_charAt q_698 q_151 q_152 rfl (hE.2.1.1 3 (by decide)).1 ⟨rfl, rfl⟩ ⟨Nat.le_of_ble_eq_true rfl, Nat.le_of_ble_eq_true rfl⟩ rfl rfl (Nat.le_of_ble_eq_true rfl) ⟨Nat.zero_le _, Nat.zero_le _⟩ ?_
  refine y_callS_i (As := [.ref (g.2.2 91), .int (zI a2), .int (zI 112)]) (rest := []) (W := fun u => wX g X N T Rd Fr Ac Ch PS Ly Pa OT Ea Ga Im0 Im1 u.2) (rf := fun u => zI u.1) (rm := zr0) cx (fun _ hq => tL_put hq) d_L_add_22 25 rfl kk_L_put q_699 q_700 ⟨rfl, rfl⟩ ⟨Nat.le_of_ble_eq_true rfl, Nat.le_of_ble_eq_true rfl⟩ rfl rfl (Nat.le_of_ble_eq_true rfl) ⟨Nat.zero_le _, Nat.zero_le _⟩ h (fun u1 h => ?_)
  refine y_istore_n cx d_L_add_25 26 rfl rfl (by decide) (lv' := [(3, .int (zI u1.1)), (4, .int (zI 0)), (0, .ref (g.2.2 91)), (1, .int (zI a2)), (2, .ref (ks.1 3))]) rfl ?_
  refine z_iinc (n := 1) (x := zI 0) (y := zI 1) (lv' := [(4, .int (zI 1)), (3, .int (zI u1.1)), (0, .ref (g.2.2 91)), (1, .int (zI a2)), (2, .ref (ks.1 3))]) cx 1 d_L_add_26 29 rfl rfl (by decide) rfl (by decide) ?_
  refine z_goto cx d_L_add_29 5 (by decide) ?_
  refine z_iload cx d_L_add_5 7 rfl 0 rfl ?_
  refine z_aload_n cx d_L_add_7 8 rfl rfl 4 rfl ?_
  refine z_callVs_i (As := []) (rest := [.int (zI 1)]) cx hE (tJ_length (i := 3) (v := zI 6) (by decide) (by decide)) d_L_add_8 11 rfl kJ_length q_697 q_140 q_141 rfl (hE.2.1.1 3 (by decide)).1 ⟨rfl, rfl⟩ ⟨Nat.le_of_ble_eq_true rfl, Nat.le_of_ble_eq_true rfl⟩ rfl rfl (Nat.le_of_ble_eq_true rfl) ⟨Nat.zero_le _, Nat.zero_le _⟩ ?_
  refine z_icmp_ge cx d_L_add_11 14 rfl 32 (by decide) (fun h => absurd h (by decide)) (fun _ => ?_)
  refine z_aload_n cx d_L_add_14 15 rfl rfl 2 rfl ?_
  refine z_iload_n cx d_L_add_15 16 rfl rfl 1 rfl ?_
  refine z_aload_n cx d_L_add_16 17 rfl rfl 4 rfl ?_
  refine z_iload cx d_L_add_17 19 rfl 0 rfl ?_
  refine z_callVs_i (As := [.int (zI 1)]) (rest := [.int (zI u1.1), .ref (g.2.2 91)]) cx hE (tJ_charAt (i := 3) (v := zI 111) (by decide) (by decide) (by decide) (vp_in_iff.mpr (by decide)) (by decide) (by decide)) d_L_add_19 22 rfl kJ_charAt q_698 q_151 q_152 rfl (hE.2.1.1 3 (by decide)).1 ⟨rfl, rfl⟩ ⟨Nat.le_of_ble_eq_true rfl, Nat.le_of_ble_eq_true rfl⟩ rfl rfl (Nat.le_of_ble_eq_true rfl) ⟨Nat.zero_le _, Nat.zero_le _⟩ ?_
  refine y_callS_i (As := [.ref (g.2.2 91), .int (zI u1.1), .int (zI 111)]) (rest := []) (W := fun u => wX g X N T Rd Fr Ac Ch PS Ly Pa OT Ea Ga Im0 Im1 u.2) (rf := fun u => zI u.1) (rm := zr0) cx (fun _ hq => tL_put hq) d_L_add_22 25 rfl kk_L_put q_699 q_700 ⟨rfl, rfl⟩ ⟨Nat.le_of_ble_eq_true rfl, Nat.le_of_ble_eq_true rfl⟩ rfl rfl (Nat.le_of_ble_eq_true rfl) ⟨Nat.zero_le _, Nat.zero_le _⟩ h (fun u2 h => ?_)
  refine y_istore_n cx d_L_add_25 26 rfl rfl (by decide) (lv' := [(3, .int (zI u2.1)), (4, .int (zI 1)), (0, .ref (g.2.2 91)), (1, .int (zI a2)), (2, .ref (ks.1 3))]) rfl ?_
  refine z_iinc (n := 1) (x := zI 1) (y := zI 2) (lv' := [(4, .int (zI 2)), (3, .int (zI u2.1)), (0, .ref (g.2.2 91)), (1, .int (zI a2)), (2, .ref (ks.1 3))]) cx 1 d_L_add_26 29 rfl rfl (by decide) rfl (by decide) ?_
  refine z_goto cx d_L_add_29 5 (by decide) ?_
  refine z_iload cx d_L_add_5 7 rfl 0 rfl ?_
  refine z_aload_n cx d_L_add_7 8 rfl rfl 4 rfl ?_
  refine z_callVs_i (As := []) (rest := [.int (zI 2)]) cx hE (tJ_length (i := 3) (v := zI 6) (by decide) (by decide)) d_L_add_8 11 rfl kJ_length q_697 q_140 q_141 rfl (hE.2.1.1 3 (by decide)).1 ⟨rfl, rfl⟩ ⟨Nat.le_of_ble_eq_true rfl, Nat.le_of_ble_eq_true rfl⟩ rfl rfl (Nat.le_of_ble_eq_true rfl) ⟨Nat.zero_le _, Nat.zero_le _⟩ ?_
  refine z_icmp_ge cx d_L_add_11 14 rfl 32 (by decide) (fun h => absurd h (by decide)) (fun _ => ?_)
  refine z_aload_n cx d_L_add_14 15 rfl rfl 2 rfl ?_
  refine z_iload_n cx d_L_add_15 16 rfl rfl 1 rfl ?_
  refine z_aload_n cx d_L_add_16 17 rfl rfl 4 rfl ?_
  refine z_iload cx d_L_add_17 19 rfl 0 rfl ?_
  refine z_callVs_i (As := [.int (zI 2)]) (rest := [.int (zI u2.1), .ref (g.2.2 91)]) cx hE (tJ_charAt (i := 3) (v := zI 105) (by decide) (by decide) (by decide) (vp_in_iff.mpr (by decide)) (by decide) (by decide)) d_L_add_19 22 rfl kJ_charAt q_698 q_151 q_152 rfl (hE.2.1.1 3 (by decide)).1 ⟨rfl, rfl⟩ ⟨Nat.le_of_ble_eq_true rfl, Nat.le_of_ble_eq_true rfl⟩ rfl rfl (Nat.le_of_ble_eq_true rfl) ⟨Nat.zero_le _, Nat.zero_le _⟩ ?_
  refine y_callS_i (As := [.ref (g.2.2 91), .int (zI u2.1), .int (zI 105)]) (rest := []) (W := fun u => wX g X N T Rd Fr Ac Ch PS Ly Pa OT Ea Ga Im0 Im1 u.2) (rf := fun u => zI u.1) (rm := zr0) cx (fun _ hq => tL_put hq) d_L_add_22 25 rfl kk_L_put q_699 q_700 ⟨rfl, rfl⟩ ⟨Nat.le_of_ble_eq_true rfl, Nat.le_of_ble_eq_true rfl⟩ rfl rfl (Nat.le_of_ble_eq_true rfl) ⟨Nat.zero_le _, Nat.zero_le _⟩ h (fun u3 h => ?_)
  refine y_istore_n cx d_L_add_25 26 rfl rfl (by decide) (lv' := [(3, .int (zI u3.1)), (4, .int (zI 2)), (0, .ref (g.2.2 91)), (1, .int (zI a2)), (2, .ref (ks.1 3))]) rfl ?_
  refine z_iinc (n := 1) (x := zI 2) (y := zI 3) (lv' := [(4, .int (zI 3)), (3, .int (zI u3.1)), (0, .ref (g.2.2 91)), (1, .int (zI a2)), (2, .ref (ks.1 3))]) cx 1 d_L_add_26 29 rfl rfl (by decide) rfl (by decide) ?_
  refine z_goto cx d_L_add_29 5 (by decide) ?_
  refine z_iload cx d_L_add_5 7 rfl 0 rfl ?_
  refine z_aload_n cx d_L_add_7 8 rfl rfl 4 rfl ?_
  refine z_callVs_i (As := []) (rest := [.int (zI 3)]) cx hE (tJ_length (i := 3) (v := zI 6) (by decide) (by decide)) d_L_add_8 11 rfl kJ_length q_697 q_140 q_141 rfl (hE.2.1.1 3 (by decide)).1 ⟨rfl, rfl⟩ ⟨Nat.le_of_ble_eq_true rfl, Nat.le_of_ble_eq_true rfl⟩ rfl rfl (Nat.le_of_ble_eq_true rfl) ⟨Nat.zero_le _, Nat.zero_le _⟩ ?_
  refine z_icmp_ge cx d_L_add_11 14 rfl 32 (by decide) (fun h => absurd h (by decide)) (fun _ => ?_)
  refine z_aload_n cx d_L_add_14 15 rfl rfl 2 rfl ?_
  refine z_iload_n cx d_L_add_15 16 rfl rfl 1 rfl ?_
  refine z_aload_n cx d_L_add_16 17 rfl rfl 4 rfl ?_
  refine z_iload cx d_L_add_17 19 rfl 0 rfl ?_
  refine z_callVs_i (As := [.int (zI 3)]) (rest := [.int (zI u3.1), .ref (g.2.2 91)]) cx hE (tJ_charAt (i := 3) (v := zI 110) (by decide) (by decide) (by decide) (vp_in_iff.mpr (by decide)) (by decide) (by decide)) d_L_add_19 22 rfl kJ_charAt q_698 q_151 q_152 rfl (hE.2.1.1 3 (by decide)).1 ⟨rfl, rfl⟩ ⟨Nat.le_of_ble_eq_true rfl, Nat.le_of_ble_eq_true rfl⟩ rfl rfl (Nat.le_of_ble_eq_true rfl) ⟨Nat.zero_le _, Nat.zero_le _⟩ ?_
  refine y_callS_i (As := [.ref (g.2.2 91), .int (zI u3.1), .int (zI 110)]) (rest := []) (W := fun u => wX g X N T Rd Fr Ac Ch PS Ly Pa OT Ea Ga Im0 Im1 u.2) (rf := fun u => zI u.1) (rm := zr0) cx (fun _ hq => tL_put hq) d_L_add_22 25 rfl kk_L_put q_699 q_700 ⟨rfl, rfl⟩ ⟨Nat.le_of_ble_eq_true rfl, Nat.le_of_ble_eq_true rfl⟩ rfl rfl (Nat.le_of_ble_eq_true rfl) ⟨Nat.zero_le _, Nat.zero_le _⟩ h (fun u4 h => ?_)
  refine y_istore_n cx d_L_add_25 26 rfl rfl (by decide) (lv' := [(3, .int (zI u4.1)), (4, .int (zI 3)), (0, .ref (g.2.2 91)), (1, .int (zI a2)), (2, .ref (ks.1 3))]) rfl ?_
  refine z_iinc (n := 1) (x := zI 3) (y := zI 4) (lv' := [(4, .int (zI 4)), (3, .int (zI u4.1)), (0, .ref (g.2.2 91)), (1, .int (zI a2)), (2, .ref (ks.1 3))]) cx 1 d_L_add_26 29 rfl rfl (by decide) rfl (by decide) ?_
  refine z_goto cx d_L_add_29 5 (by decide) ?_
  refine z_iload cx d_L_add_5 7 rfl 0 rfl ?_
  refine z_aload_n cx d_L_add_7 8 rfl rfl 4 rfl ?_
  refine z_callVs_i (As := []) (rest := [.int (zI 4)]) cx hE (tJ_length (i := 3) (v := zI 6) (by decide) (by decide)) d_L_add_8 11 rfl kJ_length q_697 q_140 q_141 rfl (hE.2.1.1 3 (by decide)).1 ⟨rfl, rfl⟩ ⟨Nat.le_of_ble_eq_true rfl, Nat.le_of_ble_eq_true rfl⟩ rfl rfl (Nat.le_of_ble_eq_true rfl) ⟨Nat.zero_le _, Nat.zero_le _⟩ ?_
  refine z_icmp_ge cx d_L_add_11 14 rfl 32 (by decide) (fun h => absurd h (by decide)) (fun _ => ?_)
  refine z_aload_n cx d_L_add_14 15 rfl rfl 2 rfl ?_
  refine z_iload_n cx d_L_add_15 16 rfl rfl 1 rfl ?_
  refine z_aload_n cx d_L_add_16 17 rfl rfl 4 rfl ?_
  refine z_iload cx d_L_add_17 19 rfl 0 rfl ?_
  refine z_callVs_i (As := [.int (zI 4)]) (rest := [.int (zI u4.1), .ref (g.2.2 91)]) cx hE (tJ_charAt (i := 3) (v := zI 116) (by decide) (by decide) (by decide) (vp_in_iff.mpr (by decide)) (by decide) (by decide)) d_L_add_19 22 rfl kJ_charAt q_698 q_151 q_152 rfl (hE.2.1.1 3 (by decide)).1 ⟨rfl, rfl⟩ ⟨Nat.le_of_ble_eq_true rfl, Nat.le_of_ble_eq_true rfl⟩ rfl rfl (Nat.le_of_ble_eq_true rfl) ⟨Nat.zero_le _, Nat.zero_le _⟩ ?_
  refine y_callS_i (As := [.ref (g.2.2 91), .int (zI u4.1), .int (zI 116)]) (rest := []) (W := fun u => wX g X N T Rd Fr Ac Ch PS Ly Pa OT Ea Ga Im0 Im1 u.2) (rf := fun u => zI u.1) (rm := zr0) cx (fun _ hq => tL_put hq) d_L_add_22 25 rfl kk_L_put q_699 q_700 ⟨rfl, rfl⟩ ⟨Nat.le_of_ble_eq_true rfl, Nat.le_of_ble_eq_true rfl⟩ rfl rfl (Nat.le_of_ble_eq_true rfl) ⟨Nat.zero_le _, Nat.zero_le _⟩ h (fun u5 h => ?_)
  refine y_istore_n cx d_L_add_25 26 rfl rfl (by decide) (lv' := [(3, .int (zI u5.1)), (4, .int (zI 4)), (0, .ref (g.2.2 91)), (1, .int (zI a2)), (2, .ref (ks.1 3))]) rfl ?_
  refine z_iinc (n := 1) (x := zI 4) (y := zI 5) (lv' := [(4, .int (zI 5)), (3, .int (zI u5.1)), (0, .ref (g.2.2 91)), (1, .int (zI a2)), (2, .ref (ks.1 3))]) cx 1 d_L_add_26 29 rfl rfl (by decide) rfl (by decide) ?_
  refine z_goto cx d_L_add_29 5 (by decide) ?_
  refine z_iload cx d_L_add_5 7 rfl 0 rfl ?_
  refine z_aload_n cx d_L_add_7 8 rfl rfl 4 rfl ?_
  refine z_callVs_i (As := []) (rest := [.int (zI 5)]) cx hE (tJ_length (i := 3) (v := zI 6) (by decide) (by decide)) d_L_add_8 11 rfl kJ_length q_697 q_140 q_141 rfl (hE.2.1.1 3 (by decide)).1 ⟨rfl, rfl⟩ ⟨Nat.le_of_ble_eq_true rfl, Nat.le_of_ble_eq_true rfl⟩ rfl rfl (Nat.le_of_ble_eq_true rfl) ⟨Nat.zero_le _, Nat.zero_le _⟩ ?_
  refine z_icmp_ge cx d_L_add_11 14 rfl 32 (by decide) (fun h => absurd h (by decide)) (fun _ => ?_)
  refine z_aload_n cx d_L_add_14 15 rfl rfl 2 rfl ?_
  refine z_iload_n cx d_L_add_15 16 rfl rfl 1 rfl ?_
  refine z_aload_n cx d_L_add_16 17 rfl rfl 4 rfl ?_
  refine z_iload cx d_L_add_17 19 rfl 0 rfl ?_
  refine z_callVs_i (As := [.int (zI 5)]) (rest := [.int (zI u5.1), .ref (g.2.2 91)]) cx hE (tJ_charAt (i := 3) (v := zI 32) (by decide) (by decide) (by decide) (vp_in_iff.mpr (by decide)) (by decide) (by decide)) d_L_add_19 22 rfl kJ_charAt q_698 q_151 q_152 rfl (hE.2.1.1 3 (by decide)).1 ⟨rfl, rfl⟩ ⟨Nat.le_of_ble_eq_true rfl, Nat.le_of_ble_eq_true rfl⟩ rfl rfl (Nat.le_of_ble_eq_true rfl) ⟨Nat.zero_le _, Nat.zero_le _⟩ ?_
  refine y_callS_i (As := [.ref (g.2.2 91), .int (zI u5.1), .int (zI 32)]) (rest := []) (W := fun u => wX g X N T Rd Fr Ac Ch PS Ly Pa OT Ea Ga Im0 Im1 u.2) (rf := fun u => zI u.1) (rm := zr0) cx (fun _ hq => tL_put hq) d_L_add_22 25 rfl kk_L_put q_699 q_700 ⟨rfl, rfl⟩ ⟨Nat.le_of_ble_eq_true rfl, Nat.le_of_ble_eq_true rfl⟩ rfl rfl (Nat.le_of_ble_eq_true rfl) ⟨Nat.zero_le _, Nat.zero_le _⟩ h (fun u6 h => ?_)
  refine y_istore_n cx d_L_add_25 26 rfl rfl (by decide) (lv' := [(3, .int (zI u6.1)), (4, .int (zI 5)), (0, .ref (g.2.2 91)), (1, .int (zI a2)), (2, .ref (ks.1 3))]) rfl ?_
  refine z_iinc (n := 1) (x := zI 5) (y := zI 6) (lv' := [(4, .int (zI 6)), (3, .int (zI u6.1)), (0, .ref (g.2.2 91)), (1, .int (zI a2)), (2, .ref (ks.1 3))]) cx 1 d_L_add_26 29 rfl rfl (by decide) rfl (by decide) ?_
  refine z_goto cx d_L_add_29 5 (by decide) ?_
  refine z_iload cx d_L_add_5 7 rfl 0 rfl ?_
  refine z_aload_n cx d_L_add_7 8 rfl rfl 4 rfl ?_
  refine z_callVs_i (As := []) (rest := [.int (zI 6)]) cx hE (tJ_length (i := 3) (v := zI 6) (by decide) (by decide)) d_L_add_8 11 rfl kJ_length q_697 q_140 q_141 rfl (hE.2.1.1 3 (by decide)).1 ⟨rfl, rfl⟩ ⟨Nat.le_of_ble_eq_true rfl, Nat.le_of_ble_eq_true rfl⟩ rfl rfl (Nat.le_of_ble_eq_true rfl) ⟨Nat.zero_le _, Nat.zero_le _⟩ ?_
  refine z_icmp_ge cx d_L_add_11 14 rfl 32 (by decide) (fun _ => ?_) (fun h => absurd h (by decide))
  refine z_iload_n cx d_L_add_32 33 rfl rfl 1 rfl ?_
  subst hQ
  obtain rfl := Option.some.inj h
  exact z_iret cx d_L_add_33 rfl rfl
set_option maxHeartbeats 4000000 in
theorem tL_add4 {l : Launch} {ks : ZS} {g : ZG} {X : ZB} {N : ZB} {T : ZB} {Rd : ZB} {Fr : ZB} {Ac : ZA} {Ch : ZB} {PS : ZB} {Ly : ZB} {Pa : ZQ} {OT : ZB} {Ea : ZB} {Ga : ZB} {Im0 : ZO} {Im1 : ZO} {La : ZB} {a2 : Int} {r : Int × ZB} (h : fL_add4 La a2 = some r) : zMe l ks yL_add cL_add 5 (some .int) zrL_add 0 0 g [.ref (g.2.2 91), .int (zI a2), .ref (ks.1 4)] (wX g X N T Rd Fr Ac Ch PS Ly Pa OT Ea Ga Im0 Im1 La) (wX g X N T Rd Fr Ac Ch PS Ly Pa OT Ea Ga Im0 Im1 r.2) (zI r.1) := by
  unfold fL_add4 fL_adds at h
  refine zMe_of (own := RL) rfl (by decide +kernel) (Nat.le_of_ble_eq_true rfl) (lv := [(0, .ref (g.2.2 91)), (1, .int (zI a2)), (2, .ref (ks.1 4))]) rfl ?_
  intro p e s m args below meth c A Q hQ cx hE
  refine z_iload_n cx d_L_add_0 1 rfl rfl 1 rfl ?_
  refine y_istore_n cx d_L_add_1 2 rfl rfl (by decide) (lv' := [(3, .int (zI a2)), (0, .ref (g.2.2 91)), (1, .int (zI a2)), (2, .ref (ks.1 4))]) rfl ?_
  refine y_iconst cx d_L_add_2 3 rfl ?_
  refine y_istore cx d_L_add_3 5 rfl (by decide) (lv' := [(4, .int (zI 0)), (3, .int (zI a2)), (0, .ref (g.2.2 91)), (1, .int (zI a2)), (2, .ref (ks.1 4))]) rfl ?_
  refine z_iload cx d_L_add_5 7 rfl 0 rfl ?_
  refine z_aload_n cx d_L_add_7 8 rfl rfl 4 rfl ?_
  refine z_callVs_i (As := []) (rest := [.int (zI 0)]) cx hE (tJ_length (i := 4) (v := zI 5) (by decide) (by decide)) d_L_add_8 11 rfl kJ_length q_697 q_140 q_141 rfl (hE.2.1.1 4 (by decide)).1 ⟨rfl, rfl⟩ ⟨Nat.le_of_ble_eq_true rfl, Nat.le_of_ble_eq_true rfl⟩ rfl rfl (Nat.le_of_ble_eq_true rfl) ⟨Nat.zero_le _, Nat.zero_le _⟩ ?_
  refine z_icmp_ge cx d_L_add_11 14 rfl 32 (by decide) (fun h => absurd h (by decide)) (fun _ => ?_)
  refine z_aload_n cx d_L_add_14 15 rfl rfl 2 rfl ?_
  refine z_iload_n cx d_L_add_15 16 rfl rfl 1 rfl ?_
  refine z_aload_n cx d_L_add_16 17 rfl rfl 4 rfl ?_
  refine z_iload cx d_L_add_17 19 rfl 0 rfl ?_
  refine z_callVs_i (As := [.int (zI 0)]) (rest := [.int (zI a2), .ref (g.2.2 91)]) cx hE (tJ_charAt (i := 4) (v := zI 108) (by decide) (by decide) (by decide) (vp_in_iff.mpr (by decide)) (by decide) (by decide)) d_L_add_19 22 rfl kJ_charAt q_698 q_151 q_152 rfl (hE.2.1.1 4 (by decide)).1 ⟨rfl, rfl⟩ ⟨Nat.le_of_ble_eq_true rfl, Nat.le_of_ble_eq_true rfl⟩ rfl rfl (Nat.le_of_ble_eq_true rfl) ⟨Nat.zero_le _, Nat.zero_le _⟩ ?_
  refine y_callS_i (As := [.ref (g.2.2 91), .int (zI a2), .int (zI 108)]) (rest := []) (W := fun u => wX g X N T Rd Fr Ac Ch PS Ly Pa OT Ea Ga Im0 Im1 u.2) (rf := fun u => zI u.1) (rm := zr0) cx (fun _ hq => tL_put hq) d_L_add_22 25 rfl kk_L_put q_699 q_700 ⟨rfl, rfl⟩ ⟨Nat.le_of_ble_eq_true rfl, Nat.le_of_ble_eq_true rfl⟩ rfl rfl (Nat.le_of_ble_eq_true rfl) ⟨Nat.zero_le _, Nat.zero_le _⟩ h (fun u1 h => ?_)
  refine y_istore_n cx d_L_add_25 26 rfl rfl (by decide) (lv' := [(3, .int (zI u1.1)), (4, .int (zI 0)), (0, .ref (g.2.2 91)), (1, .int (zI a2)), (2, .ref (ks.1 4))]) rfl ?_
  refine z_iinc (n := 1) (x := zI 0) (y := zI 1) (lv' := [(4, .int (zI 1)), (3, .int (zI u1.1)), (0, .ref (g.2.2 91)), (1, .int (zI a2)), (2, .ref (ks.1 4))]) cx 1 d_L_add_26 29 rfl rfl (by decide) rfl (by decide) ?_
  refine z_goto cx d_L_add_29 5 (by decide) ?_
  refine z_iload cx d_L_add_5 7 rfl 0 rfl ?_
  refine z_aload_n cx d_L_add_7 8 rfl rfl 4 rfl ?_
  refine z_callVs_i (As := []) (rest := [.int (zI 1)]) cx hE (tJ_length (i := 4) (v := zI 5) (by decide) (by decide)) d_L_add_8 11 rfl kJ_length q_697 q_140 q_141 rfl (hE.2.1.1 4 (by decide)).1 ⟨rfl, rfl⟩ ⟨Nat.le_of_ble_eq_true rfl, Nat.le_of_ble_eq_true rfl⟩ rfl rfl (Nat.le_of_ble_eq_true rfl) ⟨Nat.zero_le _, Nat.zero_le _⟩ ?_
  refine z_icmp_ge cx d_L_add_11 14 rfl 32 (by decide) (fun h => absurd h (by decide)) (fun _ => ?_)
  refine z_aload_n cx d_L_add_14 15 rfl rfl 2 rfl ?_
  refine z_iload_n cx d_L_add_15 16 rfl rfl 1 rfl ?_
  refine z_aload_n cx d_L_add_16 17 rfl rfl 4 rfl ?_
  refine z_iload cx d_L_add_17 19 rfl 0 rfl ?_
  refine z_callVs_i (As := [.int (zI 1)]) (rest := [.int (zI u1.1), .ref (g.2.2 91)]) cx hE (tJ_charAt (i := 4) (v := zI 105) (by decide) (by decide) (by decide) (vp_in_iff.mpr (by decide)) (by decide) (by decide)) d_L_add_19 22 rfl kJ_charAt q_698 q_151 q_152 rfl (hE.2.1.1 4 (by decide)).1 ⟨rfl, rfl⟩ ⟨Nat.le_of_ble_eq_true rfl, Nat.le_of_ble_eq_true rfl⟩ rfl rfl (Nat.le_of_ble_eq_true rfl) ⟨Nat.zero_le _, Nat.zero_le _⟩ ?_
  refine y_callS_i (As := [.ref (g.2.2 91), .int (zI u1.1), .int (zI 105)]) (rest := []) (W := fun u => wX g X N T Rd Fr Ac Ch PS Ly Pa OT Ea Ga Im0 Im1 u.2) (rf := fun u => zI u.1) (rm := zr0) cx (fun _ hq => tL_put hq) d_L_add_22 25 rfl kk_L_put q_699 q_700 ⟨rfl, rfl⟩ ⟨Nat.le_of_ble_eq_true rfl, Nat.le_of_ble_eq_true rfl⟩ rfl rfl (Nat.le_of_ble_eq_true rfl) ⟨Nat.zero_le _, Nat.zero_le _⟩ h (fun u2 h => ?_)
  refine y_istore_n cx d_L_add_25 26 rfl rfl (by decide) (lv' := [(3, .int (zI u2.1)), (4, .int (zI 1)), (0, .ref (g.2.2 91)), (1, .int (zI a2)), (2, .ref (ks.1 4))]) rfl ?_
  refine z_iinc (n := 1) (x := zI 1) (y := zI 2) (lv' := [(4, .int (zI 2)), (3, .int (zI u2.1)), (0, .ref (g.2.2 91)), (1, .int (zI a2)), (2, .ref (ks.1 4))]) cx 1 d_L_add_26 29 rfl rfl (by decide) rfl (by decide) ?_
  refine z_goto cx d_L_add_29 5 (by decide) ?_
  refine z_iload cx d_L_add_5 7 rfl 0 rfl ?_
  refine z_aload_n cx d_L_add_7 8 rfl rfl 4 rfl ?_
  refine z_callVs_i (As := []) (rest := [.int (zI 2)]) cx hE (tJ_length (i := 4) (v := zI 5) (by decide) (by decide)) d_L_add_8 11 rfl kJ_length q_697 q_140 q_141 rfl (hE.2.1.1 4 (by decide)).1 ⟨rfl, rfl⟩ ⟨Nat.le_of_ble_eq_true rfl, Nat.le_of_ble_eq_true rfl⟩ rfl rfl (Nat.le_of_ble_eq_true rfl) ⟨Nat.zero_le _, Nat.zero_le _⟩ ?_
  refine z_icmp_ge cx d_L_add_11 14 rfl 32 (by decide) (fun h => absurd h (by decide)) (fun _ => ?_)
  refine z_aload_n cx d_L_add_14 15 rfl rfl 2 rfl ?_
  refine z_iload_n cx d_L_add_15 16 rfl rfl 1 rfl ?_
  refine z_aload_n cx d_L_add_16 17 rfl rfl 4 rfl ?_
  refine z_iload cx d_L_add_17 19 rfl 0 rfl ?_
  refine z_callVs_i (As := [.int (zI 2)]) (rest := [.int (zI u2.1), .ref (g.2.2 91)]) cx hE (tJ_charAt (i := 4) (v := zI 110) (by decide) (by decide) (by decide) (vp_in_iff.mpr (by decide)) (by decide) (by decide)) d_L_add_19 22 rfl kJ_charAt q_698 q_151 q_152 rfl (hE.2.1.1 4 (by decide)).1 ⟨rfl, rfl⟩ ⟨Nat.le_of_ble_eq_true rfl, Nat.le_of_ble_eq_true rfl⟩ rfl rfl (Nat.le_of_ble_eq_true rfl) ⟨Nat.zero_le _, Nat.zero_le _⟩ ?_
  refine y_callS_i (As := [.ref (g.2.2 91), .int (zI u2.1), .int (zI 110)]) (rest := []) (W := fun u => wX g X N T Rd Fr Ac Ch PS Ly Pa OT Ea Ga Im0 Im1 u.2) (rf := fun u => zI u.1) (rm := zr0) cx (fun _ hq => tL_put hq) d_L_add_22 25 rfl kk_L_put q_699 q_700 ⟨rfl, rfl⟩ ⟨Nat.le_of_ble_eq_true rfl, Nat.le_of_ble_eq_true rfl⟩ rfl rfl (Nat.le_of_ble_eq_true rfl) ⟨Nat.zero_le _, Nat.zero_le _⟩ h (fun u3 h => ?_)
  refine y_istore_n cx d_L_add_25 26 rfl rfl (by decide) (lv' := [(3, .int (zI u3.1)), (4, .int (zI 2)), (0, .ref (g.2.2 91)), (1, .int (zI a2)), (2, .ref (ks.1 4))]) rfl ?_
  refine z_iinc (n := 1) (x := zI 2) (y := zI 3) (lv' := [(4, .int (zI 3)), (3, .int (zI u3.1)), (0, .ref (g.2.2 91)), (1, .int (zI a2)), (2, .ref (ks.1 4))]) cx 1 d_L_add_26 29 rfl rfl (by decide) rfl (by decide) ?_
  refine z_goto cx d_L_add_29 5 (by decide) ?_
  refine z_iload cx d_L_add_5 7 rfl 0 rfl ?_
  refine z_aload_n cx d_L_add_7 8 rfl rfl 4 rfl ?_
  refine z_callVs_i (As := []) (rest := [.int (zI 3)]) cx hE (tJ_length (i := 4) (v := zI 5) (by decide) (by decide)) d_L_add_8 11 rfl kJ_length q_697 q_140 q_141 rfl (hE.2.1.1 4 (by decide)).1 ⟨rfl, rfl⟩ ⟨Nat.le_of_ble_eq_true rfl, Nat.le_of_ble_eq_true rfl⟩ rfl rfl (Nat.le_of_ble_eq_true rfl) ⟨Nat.zero_le _, Nat.zero_le _⟩ ?_
  refine z_icmp_ge cx d_L_add_11 14 rfl 32 (by decide) (fun h => absurd h (by decide)) (fun _ => ?_)
  refine z_aload_n cx d_L_add_14 15 rfl rfl 2 rfl ?_
  refine z_iload_n cx d_L_add_15 16 rfl rfl 1 rfl ?_
  refine z_aload_n cx d_L_add_16 17 rfl rfl 4 rfl ?_
  refine z_iload cx d_L_add_17 19 rfl 0 rfl ?_
  refine z_callVs_i (As := [.int (zI 3)]) (rest := [.int (zI u3.1), .ref (g.2.2 91)]) cx hE (tJ_charAt (i := 4) (v := zI 101) (by decide) (by decide) (by decide) (vp_in_iff.mpr (by decide)) (by decide) (by decide)) d_L_add_19 22 rfl kJ_charAt q_698 q_151 q_152 rfl (hE.2.1.1 4 (by decide)).1 ⟨rfl, rfl⟩ ⟨Nat.le_of_ble_eq_true rfl, Nat.le_of_ble_eq_true rfl⟩ rfl rfl (Nat.le_of_ble_eq_true rfl) ⟨Nat.zero_le _, Nat.zero_le _⟩ ?_
  refine y_callS_i (As := [.ref (g.2.2 91), .int (zI u3.1), .int (zI 101)]) (rest := []) (W := fun u => wX g X N T Rd Fr Ac Ch PS Ly Pa OT Ea Ga Im0 Im1 u.2) (rf := fun u => zI u.1) (rm := zr0) cx (fun _ hq => tL_put hq) d_L_add_22 25 rfl kk_L_put q_699 q_700 ⟨rfl, rfl⟩ ⟨Nat.le_of_ble_eq_true rfl, Nat.le_of_ble_eq_true rfl⟩ rfl rfl (Nat.le_of_ble_eq_true rfl) ⟨Nat.zero_le _, Nat.zero_le _⟩ h (fun u4 h => ?_)
  refine y_istore_n cx d_L_add_25 26 rfl rfl (by decide) (lv' := [(3, .int (zI u4.1)), (4, .int (zI 3)), (0, .ref (g.2.2 91)), (1, .int (zI a2)), (2, .ref (ks.1 4))]) rfl ?_
  refine z_iinc (n := 1) (x := zI 3) (y := zI 4) (lv' := [(4, .int (zI 4)), (3, .int (zI u4.1)), (0, .ref (g.2.2 91)), (1, .int (zI a2)), (2, .ref (ks.1 4))]) cx 1 d_L_add_26 29 rfl rfl (by decide) rfl (by decide) ?_
  refine z_goto cx d_L_add_29 5 (by decide) ?_
  refine z_iload cx d_L_add_5 7 rfl 0 rfl ?_
  refine z_aload_n cx d_L_add_7 8 rfl rfl 4 rfl ?_
  refine z_callVs_i (As := []) (rest := [.int (zI 4)]) cx hE (tJ_length (i := 4) (v := zI 5) (by decide) (by decide)) d_L_add_8 11 rfl kJ_length q_697 q_140 q_141 rfl (hE.2.1.1 4 (by decide)).1 ⟨rfl, rfl⟩ ⟨Nat.le_of_ble_eq_true rfl, Nat.le_of_ble_eq_true rfl⟩ rfl rfl (Nat.le_of_ble_eq_true rfl) ⟨Nat.zero_le _, Nat.zero_le _⟩ ?_
  refine z_icmp_ge cx d_L_add_11 14 rfl 32 (by decide) (fun h => absurd h (by decide)) (fun _ => ?_)
  refine z_aload_n cx d_L_add_14 15 rfl rfl 2 rfl ?_
  refine z_iload_n cx d_L_add_15 16 rfl rfl 1 rfl ?_
  refine z_aload_n cx d_L_add_16 17 rfl rfl 4 rfl ?_
  refine z_iload cx d_L_add_17 19 rfl 0 rfl ?_
  refine z_callVs_i (As := [.int (zI 4)]) (rest := [.int (zI u4.1), .ref (g.2.2 91)]) cx hE (tJ_charAt (i := 4) (v := zI 32) (by decide) (by decide) (by decide) (vp_in_iff.mpr (by decide)) (by decide) (by decide)) d_L_add_19 22 rfl kJ_charAt q_698 q_151 q_152 rfl (hE.2.1.1 4 (by decide)).1 ⟨rfl, rfl⟩ ⟨Nat.le_of_ble_eq_true rfl, Nat.le_of_ble_eq_true rfl⟩ rfl rfl (Nat.le_of_ble_eq_true rfl) ⟨Nat.zero_le _, Nat.zero_le _⟩ ?_
  refine y_callS_i (As := [.ref (g.2.2 91), .int (zI u4.1), .int (zI 32)]) (rest := []) (W := fun u => wX g X N T Rd Fr Ac Ch PS Ly Pa OT Ea Ga Im0 Im1 u.2) (rf := fun u => zI u.1) (rm := zr0) cx (fun _ hq => tL_put hq) d_L_add_22 25 rfl kk_L_put q_699 q_700 ⟨rfl, rfl⟩ ⟨Nat.le_of_ble_eq_true rfl, Nat.le_of_ble_eq_true rfl⟩ rfl rfl (Nat.le_of_ble_eq_true rfl) ⟨Nat.zero_le _, Nat.zero_le _⟩ h (fun u5 h => ?_)
  refine y_istore_n cx d_L_add_25 26 rfl rfl (by decide) (lv' := [(3, .int (zI u5.1)), (4, .int (zI 4)), (0, .ref (g.2.2 91)), (1, .int (zI a2)), (2, .ref (ks.1 4))]) rfl ?_
  refine z_iinc (n := 1) (x := zI 4) (y := zI 5) (lv' := [(4, .int (zI 5)), (3, .int (zI u5.1)), (0, .ref (g.2.2 91)), (1, .int (zI a2)), (2, .ref (ks.1 4))]) cx 1 d_L_add_26 29 rfl rfl (by decide) rfl (by decide) ?_
  refine z_goto cx d_L_add_29 5 (by decide) ?_
  refine z_iload cx d_L_add_5 7 rfl 0 rfl ?_
  refine z_aload_n cx d_L_add_7 8 rfl rfl 4 rfl ?_
  refine z_callVs_i (As := []) (rest := [.int (zI 5)]) cx hE (tJ_length (i := 4) (v := zI 5) (by decide) (by decide)) d_L_add_8 11 rfl kJ_length q_697 q_140 q_141 rfl (hE.2.1.1 4 (by decide)).1 ⟨rfl, rfl⟩ ⟨Nat.le_of_ble_eq_true rfl, Nat.le_of_ble_eq_true rfl⟩ rfl rfl (Nat.le_of_ble_eq_true rfl) ⟨Nat.zero_le _, Nat.zero_le _⟩ ?_
  refine z_icmp_ge cx d_L_add_11 14 rfl 32 (by decide) (fun _ => ?_) (fun h => absurd h (by decide))
  refine z_iload_n cx d_L_add_32 33 rfl rfl 1 rfl ?_
  subst hQ
  obtain rfl := Option.some.inj h
  exact z_iret cx d_L_add_33 rfl rfl
set_option maxHeartbeats 4000000 in
theorem tL_add5 {l : Launch} {ks : ZS} {g : ZG} {X : ZB} {N : ZB} {T : ZB} {Rd : ZB} {Fr : ZB} {Ac : ZA} {Ch : ZB} {PS : ZB} {Ly : ZB} {Pa : ZQ} {OT : ZB} {Ea : ZB} {Ga : ZB} {Im0 : ZO} {Im1 : ZO} {La : ZB} {a2 : Int} {r : Int × ZB} (h : fL_add5 La a2 = some r) : zMe l ks yL_add cL_add 5 (some .int) zrL_add 0 0 g [.ref (g.2.2 91), .int (zI a2), .ref (ks.1 5)] (wX g X N T Rd Fr Ac Ch PS Ly Pa OT Ea Ga Im0 Im1 La) (wX g X N T Rd Fr Ac Ch PS Ly Pa OT Ea Ga Im0 Im1 r.2) (zI r.1) := by
  unfold fL_add5 fL_adds at h
  refine zMe_of (own := RL) rfl (by decide +kernel) (Nat.le_of_ble_eq_true rfl) (lv := [(0, .ref (g.2.2 91)), (1, .int (zI a2)), (2, .ref (ks.1 5))]) rfl ?_
  intro p e s m args below meth c A Q hQ cx hE
  refine z_iload_n cx d_L_add_0 1 rfl rfl 1 rfl ?_
  refine y_istore_n cx d_L_add_1 2 rfl rfl (by decide) (lv' := [(3, .int (zI a2)), (0, .ref (g.2.2 91)), (1, .int (zI a2)), (2, .ref (ks.1 5))]) rfl ?_
  refine y_iconst cx d_L_add_2 3 rfl ?_
  refine y_istore cx d_L_add_3 5 rfl (by decide) (lv' := [(4, .int (zI 0)), (3, .int (zI a2)), (0, .ref (g.2.2 91)), (1, .int (zI a2)), (2, .ref (ks.1 5))]) rfl ?_
  refine z_iload cx d_L_add_5 7 rfl 0 rfl ?_
  refine z_aload_n cx d_L_add_7 8 rfl rfl 4 rfl ?_
  refine z_callVs_i (As := []) (rest := [.int (zI 0)]) cx hE (tJ_length (i := 5) (v := zI 8) (by decide) (by decide)) d_L_add_8 11 rfl kJ_length q_697 q_140 q_141 rfl (hE.2.1.1 5 (by decide)).1 ⟨rfl, rfl⟩ ⟨Nat.le_of_ble_eq_true rfl, Nat.le_of_ble_eq_true rfl⟩ rfl rfl (Nat.le_of_ble_eq_true rfl) ⟨Nat.zero_le _, Nat.zero_le _⟩ ?_
  refine z_icmp_ge cx d_L_add_11 14 rfl 32 (by decide) (fun h => absurd h (by decide)) (fun _ => ?_)
  refine z_aload_n cx d_L_add_14 15 rfl rfl 2 rfl ?_
  refine z_iload_n cx d_L_add_15 16 rfl rfl 1 rfl ?_
  refine z_aload_n cx d_L_add_16 17 rfl rfl 4 rfl ?_
  refine z_iload cx d_L_add_17 19 rfl 0 rfl ?_
  refine z_callVs_i (As := [.int (zI 0)]) (rest := [.int (zI a2), .ref (g.2.2 91)]) cx hE (tJ_charAt (i := 5) (v := zI 102) (by decide) (by decide) (by decide) (vp_in_iff.mpr (by decide)) (by decide) (by decide)) d_L_add_19 22 rfl kJ_charAt q_698 q_151 q_152 rfl (hE.2.1.1 5 (by decide)).1 ⟨rfl, rfl⟩ ⟨Nat.le_of_ble_eq_true rfl, Nat.le_of_ble_eq_true rfl⟩ rfl rfl (Nat.le_of_ble_eq_true rfl) ⟨Nat.zero_le _, Nat.zero_le _⟩ ?_
  refine y_callS_i (As := [.ref (g.2.2 91), .int (zI a2), .int (zI 102)]) (rest := []) (W := fun u => wX g X N T Rd Fr Ac Ch PS Ly Pa OT Ea Ga Im0 Im1 u.2) (rf := fun u => zI u.1) (rm := zr0) cx (fun _ hq => tL_put hq) d_L_add_22 25 rfl kk_L_put q_699 q_700 ⟨rfl, rfl⟩ ⟨Nat.le_of_ble_eq_true rfl, Nat.le_of_ble_eq_true rfl⟩ rfl rfl (Nat.le_of_ble_eq_true rfl) ⟨Nat.zero_le _, Nat.zero_le _⟩ h (fun u1 h => ?_)
  refine y_istore_n cx d_L_add_25 26 rfl rfl (by decide) (lv' := [(3, .int (zI u1.1)), (4, .int (zI 0)), (0, .ref (g.2.2 91)), (1, .int (zI a2)), (2, .ref (ks.1 5))]) rfl ?_
  refine z_iinc (n := 1) (x := zI 0) (y := zI 1) (lv' := [(4, .int (zI 1)), (3, .int (zI u1.1)), (0, .ref (g.2.2 91)), (1, .int (zI a2)), (2, .ref (ks.1 5))]) cx 1 d_L_add_26 29 rfl rfl (by decide) rfl (by decide) ?_
  refine z_goto cx d_L_add_29 5 (by decide) ?_
  refine z_iload cx d_L_add_5 7 rfl 0 rfl ?_
  refine z_aload_n cx d_L_add_7 8 rfl rfl 4 rfl ?_
  refine z_callVs_i (As := []) (rest := [.int (zI 1)]) cx hE (tJ_length (i := 5) (v := zI 8) (by decide) (by decide)) d_L_add_8 11 rfl kJ_length q_697 q_140 q_141 rfl (hE.2.1.1 5 (by decide)).1 ⟨rfl, rfl⟩ ⟨Nat.le_of_ble_eq_true rfl, Nat.le_of_ble_eq_true rfl⟩ rfl rfl (Nat.le_of_ble_eq_true rfl) ⟨Nat.zero_le _, Nat.zero_le _⟩ ?_
  refine z_icmp_ge cx d_L_add_11 14 rfl 32 (by decide) (fun h => absurd h (by decide)) (fun _ => ?_)
  refine z_aload_n cx d_L_add_14 15 rfl rfl 2 rfl ?_
  refine z_iload_n cx d_L_add_15 16 rfl rfl 1 rfl ?_
  refine z_aload_n cx d_L_add_16 17 rfl rfl 4 rfl ?_
  refine z_iload cx d_L_add_17 19 rfl 0 rfl ?_
  refine z_callVs_i (As := [.int (zI 1)]) (rest := [.int (zI u1.1), .ref (g.2.2 91)]) cx hE (tJ_charAt (i := 5) (v := zI 111) (by decide) (by decide) (by decide) (vp_in_iff.mpr (by decide)) (by decide) (by decide)) d_L_add_19 22 rfl kJ_charAt q_698 q_151 q_152 rfl (hE.2.1.1 5 (by decide)).1 ⟨rfl, rfl⟩ ⟨Nat.le_of_ble_eq_true rfl, Nat.le_of_ble_eq_true rfl⟩ rfl rfl (Nat.le_of_ble_eq_true rfl) ⟨Nat.zero_le _, Nat.zero_le _⟩ ?_
  refine y_callS_i (As := [.ref (g.2.2 91), .int (zI u1.1), .int (zI 111)]) (rest := []) (W := fun u => wX g X N T Rd Fr Ac Ch PS Ly Pa OT Ea Ga Im0 Im1 u.2) (rf := fun u => zI u.1) (rm := zr0) cx (fun _ hq => tL_put hq) d_L_add_22 25 rfl kk_L_put q_699 q_700 ⟨rfl, rfl⟩ ⟨Nat.le_of_ble_eq_true rfl, Nat.le_of_ble_eq_true rfl⟩ rfl rfl (Nat.le_of_ble_eq_true rfl) ⟨Nat.zero_le _, Nat.zero_le _⟩ h (fun u2 h => ?_)
  refine y_istore_n cx d_L_add_25 26 rfl rfl (by decide) (lv' := [(3, .int (zI u2.1)), (4, .int (zI 1)), (0, .ref (g.2.2 91)), (1, .int (zI a2)), (2, .ref (ks.1 5))]) rfl ?_
  refine z_iinc (n := 1) (x := zI 1) (y := zI 2) (lv' := [(4, .int (zI 2)), (3, .int (zI u2.1)), (0, .ref (g.2.2 91)), (1, .int (zI a2)), (2, .ref (ks.1 5))]) cx 1 d_L_add_26 29 rfl rfl (by decide) rfl (by decide) ?_
  refine z_goto cx d_L_add_29 5 (by decide) ?_
  refine z_iload cx d_L_add_5 7 rfl 0 rfl ?_
  refine z_aload_n cx d_L_add_7 8 rfl rfl 4 rfl ?_
  refine z_callVs_i (As := []) (rest := [.int (zI 2)]) cx hE (tJ_length (i := 5) (v := zI 8) (by decide) (by decide)) d_L_add_8 11 rfl kJ_length q_697 q_140 q_141 rfl (hE.2.1.1 5 (by decide)).1 ⟨rfl, rfl⟩ ⟨Nat.le_of_ble_eq_true rfl, Nat.le_of_ble_eq_true rfl⟩ rfl rfl (Nat.le_of_ble_eq_true rfl) ⟨Nat.zero_le _, Nat.zero_le _⟩ ?_
  refine z_icmp_ge cx d_L_add_11 14 rfl 32 (by decide) (fun h => absurd h (by decide)) (fun _ => ?_)
  refine z_aload_n cx d_L_add_14 15 rfl rfl 2 rfl ?_
  refine z_iload_n cx d_L_add_15 16 rfl rfl 1 rfl ?_
  refine z_aload_n cx d_L_add_16 17 rfl rfl 4 rfl ?_
  refine z_iload cx d_L_add_17 19 rfl 0 rfl ?_
  refine z_callVs_i (As := [.int (zI 2)]) (rest := [.int (zI u2.1), .ref (g.2.2 91)]) cx hE (tJ_charAt (i := 5) (v := zI 114) (by decide) (by decide) (by decide) (vp_in_iff.mpr (by decide)) (by decide) (by decide)) d_L_add_19 22 rfl kJ_charAt q_698 q_151 q_152 rfl (hE.2.1.1 5 (by decide)).1 ⟨rfl, rfl⟩ ⟨Nat.le_of_ble_eq_true rfl, Nat.le_of_ble_eq_true rfl⟩ rfl rfl (Nat.le_of_ble_eq_true rfl) ⟨Nat.zero_le _, Nat.zero_le _⟩ ?_
  refine y_callS_i (As := [.ref (g.2.2 91), .int (zI u2.1), .int (zI 114)]) (rest := []) (W := fun u => wX g X N T Rd Fr Ac Ch PS Ly Pa OT Ea Ga Im0 Im1 u.2) (rf := fun u => zI u.1) (rm := zr0) cx (fun _ hq => tL_put hq) d_L_add_22 25 rfl kk_L_put q_699 q_700 ⟨rfl, rfl⟩ ⟨Nat.le_of_ble_eq_true rfl, Nat.le_of_ble_eq_true rfl⟩ rfl rfl (Nat.le_of_ble_eq_true rfl) ⟨Nat.zero_le _, Nat.zero_le _⟩ h (fun u3 h => ?_)
  refine y_istore_n cx d_L_add_25 26 rfl rfl (by decide) (lv' := [(3, .int (zI u3.1)), (4, .int (zI 2)), (0, .ref (g.2.2 91)), (1, .int (zI a2)), (2, .ref (ks.1 5))]) rfl ?_
  refine z_iinc (n := 1) (x := zI 2) (y := zI 3) (lv' := [(4, .int (zI 3)), (3, .int (zI u3.1)), (0, .ref (g.2.2 91)), (1, .int (zI a2)), (2, .ref (ks.1 5))]) cx 1 d_L_add_26 29 rfl rfl (by decide) rfl (by decide) ?_
  refine z_goto cx d_L_add_29 5 (by decide) ?_
  refine z_iload cx d_L_add_5 7 rfl 0 rfl ?_
  refine z_aload_n cx d_L_add_7 8 rfl rfl 4 rfl ?_
  refine z_callVs_i (As := []) (rest := [.int (zI 3)]) cx hE (tJ_length (i := 5) (v := zI 8) (by decide) (by decide)) d_L_add_8 11 rfl kJ_length q_697 q_140 q_141 rfl (hE.2.1.1 5 (by decide)).1 ⟨rfl, rfl⟩ ⟨Nat.le_of_ble_eq_true rfl, Nat.le_of_ble_eq_true rfl⟩ rfl rfl (Nat.le_of_ble_eq_true rfl) ⟨Nat.zero_le _, Nat.zero_le _⟩ ?_
  refine z_icmp_ge cx d_L_add_11 14 rfl 32 (by decide) (fun h => absurd h (by decide)) (fun _ => ?_)
  refine z_aload_n cx d_L_add_14 15 rfl rfl 2 rfl ?_
  refine z_iload_n cx d_L_add_15 16 rfl rfl 1 rfl ?_
  refine z_aload_n cx d_L_add_16 17 rfl rfl 4 rfl ?_
  refine z_iload cx d_L_add_17 19 rfl 0 rfl ?_
  refine z_callVs_i (As := [.int (zI 3)]) (rest := [.int (zI u3.1), .ref (g.2.2 91)]) cx hE (tJ_charAt (i := 5) (v := zI 101) (by decide) (by decide) (by decide) (vp_in_iff.mpr (by decide)) (by decide) (by decide)) d_L_add_19 22 rfl kJ_charAt q_698 q_151 q_152 rfl (hE.2.1.1 5 (by decide)).1 ⟨rfl, rfl⟩ ⟨Nat.le_of_ble_eq_true rfl, Nat.le_of_ble_eq_true rfl⟩ rfl rfl (Nat.le_of_ble_eq_true rfl) ⟨Nat.zero_le _, Nat.zero_le _⟩ ?_
  refine y_callS_i (As := [.ref (g.2.2 91), .int (zI u3.1), .int (zI 101)]) (rest := []) (W := fun u => wX g X N T Rd Fr Ac Ch PS Ly Pa OT Ea Ga Im0 Im1 u.2) (rf := fun u => zI u.1) (rm := zr0) cx (fun _ hq => tL_put hq) d_L_add_22 25 rfl kk_L_put q_699 q_700 ⟨rfl, rfl⟩ ⟨Nat.le_of_ble_eq_true rfl, Nat.le_of_ble_eq_true rfl⟩ rfl rfl (Nat.le_of_ble_eq_true rfl) ⟨Nat.zero_le _, Nat.zero_le _⟩ h (fun u4 h => ?_)
  refine y_istore_n cx d_L_add_25 26 rfl rfl (by decide) (lv' := [(3, .int (zI u4.1)), (4, .int (zI 3)), (0, .ref (g.2.2 91)), (1, .int (zI a2)), (2, .ref (ks.1 5))]) rfl ?_
  refine z_iinc (n := 1) (x := zI 3) (y := zI 4) (lv' := [(4, .int (zI 4)), (3, .int (zI u4.1)), (0, .ref (g.2.2 91)), (1, .int (zI a2)), (2, .ref (ks.1 5))]) cx 1 d_L_add_26 29 rfl rfl (by decide) rfl (by decide) ?_
  refine z_goto cx d_L_add_29 5 (by decide) ?_
  refine z_iload cx d_L_add_5 7 rfl 0 rfl ?_
  refine z_aload_n cx d_L_add_7 8 rfl rfl 4 rfl ?_
  refine z_callVs_i (As := []) (rest := [.int (zI 4)]) cx hE (tJ_length (i := 5) (v := zI 8) (by decide) (by decide)) d_L_add_8 11 rfl kJ_length q_697 q_140 q_141 rfl (hE.2.1.1 5 (by decide)).1 ⟨rfl, rfl⟩ ⟨Nat.le_of_ble_eq_true rfl, Nat.le_of_ble_eq_true rfl⟩ rfl rfl (Nat.le_of_ble_eq_true rfl) ⟨Nat.zero_le _, Nat.zero_le _⟩ ?_
  refine z_icmp_ge cx d_L_add_11 14 rfl 32 (by decide) (fun h => absurd h (by decide)) (fun _ => ?_)
  refine z_aload_n cx d_L_add_14 15 rfl rfl 2 rfl ?_
  refine z_iload_n cx d_L_add_15 16 rfl rfl 1 rfl ?_
  refine z_aload_n cx d_L_add_16 17 rfl rfl 4 rfl ?_
  refine z_iload cx d_L_add_17 19 rfl 0 rfl ?_
  refine z_callVs_i (As := [.int (zI 4)]) (rest := [.int (zI u4.1), .ref (g.2.2 91)]) cx hE (tJ_charAt (i := 5) (v := zI 115) (by decide) (by decide) (by decide) (vp_in_iff.mpr (by decide)) (by decide) (by decide)) d_L_add_19 22 rfl kJ_charAt q_698 q_151 q_152 rfl (hE.2.1.1 5 (by decide)).1 ⟨rfl, rfl⟩ ⟨Nat.le_of_ble_eq_true rfl, Nat.le_of_ble_eq_true rfl⟩ rfl rfl (Nat.le_of_ble_eq_true rfl) ⟨Nat.zero_le _, Nat.zero_le _⟩ ?_
  refine y_callS_i (As := [.ref (g.2.2 91), .int (zI u4.1), .int (zI 115)]) (rest := []) (W := fun u => wX g X N T Rd Fr Ac Ch PS Ly Pa OT Ea Ga Im0 Im1 u.2) (rf := fun u => zI u.1) (rm := zr0) cx (fun _ hq => tL_put hq) d_L_add_22 25 rfl kk_L_put q_699 q_700 ⟨rfl, rfl⟩ ⟨Nat.le_of_ble_eq_true rfl, Nat.le_of_ble_eq_true rfl⟩ rfl rfl (Nat.le_of_ble_eq_true rfl) ⟨Nat.zero_le _, Nat.zero_le _⟩ h (fun u5 h => ?_)
  refine y_istore_n cx d_L_add_25 26 rfl rfl (by decide) (lv' := [(3, .int (zI u5.1)), (4, .int (zI 4)), (0, .ref (g.2.2 91)), (1, .int (zI a2)), (2, .ref (ks.1 5))]) rfl ?_
  refine z_iinc (n := 1) (x := zI 4) (y := zI 5) (lv' := [(4, .int (zI 5)), (3, .int (zI u5.1)), (0, .ref (g.2.2 91)), (1, .int (zI a2)), (2, .ref (ks.1 5))]) cx 1 d_L_add_26 29 rfl rfl (by decide) rfl (by decide) ?_
  refine z_goto cx d_L_add_29 5 (by decide) ?_
  refine z_iload cx d_L_add_5 7 rfl 0 rfl ?_
  refine z_aload_n cx d_L_add_7 8 rfl rfl 4 rfl ?_
  refine z_callVs_i (As := []) (rest := [.int (zI 5)]) cx hE (tJ_length (i := 5) (v := zI 8) (by decide) (by decide)) d_L_add_8 11 rfl kJ_length q_697 q_140 q_141 rfl (hE.2.1.1 5 (by decide)).1 ⟨rfl, rfl⟩ ⟨Nat.le_of_ble_eq_true rfl, Nat.le_of_ble_eq_true rfl⟩ rfl rfl (Nat.le_of_ble_eq_true rfl) ⟨Nat.zero_le _, Nat.zero_le _⟩ ?_
  refine z_icmp_ge cx d_L_add_11 14 rfl 32 (by decide) (fun h => absurd h (by decide)) (fun _ => ?_)
  refine z_aload_n cx d_L_add_14 15 rfl rfl 2 rfl ?_
  refine z_iload_n cx d_L_add_15 16 rfl rfl 1 rfl ?_
  refine z_aload_n cx d_L_add_16 17 rfl rfl 4 rfl ?_
  refine z_iload cx d_L_add_17 19 rfl 0 rfl ?_
  refine z_callVs_i (As := [.int (zI 5)]) (rest := [.int (zI u5.1), .ref (g.2.2 91)]) cx hE (tJ_charAt (i := 5) (v := zI 116) (by decide) (by decide) (by decide) (vp_in_iff.mpr (by decide)) (by decide) (by decide)) d_L_add_19 22 rfl kJ_charAt q_698 q_151 q_152 rfl (hE.2.1.1 5 (by decide)).1 ⟨rfl, rfl⟩ ⟨Nat.le_of_ble_eq_true rfl, Nat.le_of_ble_eq_true rfl⟩ rfl rfl (Nat.le_of_ble_eq_true rfl) ⟨Nat.zero_le _, Nat.zero_le _⟩ ?_
  refine y_callS_i (As := [.ref (g.2.2 91), .int (zI u5.1), .int (zI 116)]) (rest := []) (W := fun u => wX g X N T Rd Fr Ac Ch PS Ly Pa OT Ea Ga Im0 Im1 u.2) (rf := fun u => zI u.1) (rm := zr0) cx (fun _ hq => tL_put hq) d_L_add_22 25 rfl kk_L_put q_699 q_700 ⟨rfl, rfl⟩ ⟨Nat.le_of_ble_eq_true rfl, Nat.le_of_ble_eq_true rfl⟩ rfl rfl (Nat.le_of_ble_eq_true rfl) ⟨Nat.zero_le _, Nat.zero_le _⟩ h (fun u6 h => ?_)
  refine y_istore_n cx d_L_add_25 26 rfl rfl (by decide) (lv' := [(3, .int (zI u6.1)), (4, .int (zI 5)), (0, .ref (g.2.2 91)), (1, .int (zI a2)), (2, .ref (ks.1 5))]) rfl ?_
  refine z_iinc (n := 1) (x := zI 5) (y := zI 6) (lv' := [(4, .int (zI 6)), (3, .int (zI u6.1)), (0, .ref (g.2.2 91)), (1, .int (zI a2)), (2, .ref (ks.1 5))]) cx 1 d_L_add_26 29 rfl rfl (by decide) rfl (by decide) ?_
  refine z_goto cx d_L_add_29 5 (by decide) ?_
  refine z_iload cx d_L_add_5 7 rfl 0 rfl ?_
  refine z_aload_n cx d_L_add_7 8 rfl rfl 4 rfl ?_
  refine z_callVs_i (As := []) (rest := [.int (zI 6)]) cx hE (tJ_length (i := 5) (v := zI 8) (by decide) (by decide)) d_L_add_8 11 rfl kJ_length q_697 q_140 q_141 rfl (hE.2.1.1 5 (by decide)).1 ⟨rfl, rfl⟩ ⟨Nat.le_of_ble_eq_true rfl, Nat.le_of_ble_eq_true rfl⟩ rfl rfl (Nat.le_of_ble_eq_true rfl) ⟨Nat.zero_le _, Nat.zero_le _⟩ ?_
  refine z_icmp_ge cx d_L_add_11 14 rfl 32 (by decide) (fun h => absurd h (by decide)) (fun _ => ?_)
  refine z_aload_n cx d_L_add_14 15 rfl rfl 2 rfl ?_
  refine z_iload_n cx d_L_add_15 16 rfl rfl 1 rfl ?_
  refine z_aload_n cx d_L_add_16 17 rfl rfl 4 rfl ?_
  refine z_iload cx d_L_add_17 19 rfl 0 rfl ?_
  refine z_callVs_i (As := [.int (zI 6)]) (rest := [.int (zI u6.1), .ref (g.2.2 91)]) cx hE (tJ_charAt (i := 5) (v := zI 115) (by decide) (by decide) (by decide) (vp_in_iff.mpr (by decide)) (by decide) (by decide)) d_L_add_19 22 rfl kJ_charAt q_698 q_151 q_152 rfl (hE.2.1.1 5 (by decide)).1 ⟨rfl, rfl⟩ ⟨Nat.le_of_ble_eq_true rfl, Nat.le_of_ble_eq_true rfl⟩ rfl rfl (Nat.le_of_ble_eq_true rfl) ⟨Nat.zero_le _, Nat.zero_le _⟩ ?_
  refine y_callS_i (As := [.ref (g.2.2 91), .int (zI u6.1), .int (zI 115)]) (rest := []) (W := fun u => wX g X N T Rd Fr Ac Ch PS Ly Pa OT Ea Ga Im0 Im1 u.2) (rf := fun u => zI u.1) (rm := zr0) cx (fun _ hq => tL_put hq) d_L_add_22 25 rfl kk_L_put q_699 q_700 ⟨rfl, rfl⟩ ⟨Nat.le_of_ble_eq_true rfl, Nat.le_of_ble_eq_true rfl⟩ rfl rfl (Nat.le_of_ble_eq_true rfl) ⟨Nat.zero_le _, Nat.zero_le _⟩ h (fun u7 h => ?_)
  refine y_istore_n cx d_L_add_25 26 rfl rfl (by decide) (lv' := [(3, .int (zI u7.1)), (4, .int (zI 6)), (0, .ref (g.2.2 91)), (1, .int (zI a2)), (2, .ref (ks.1 5))]) rfl ?_
  refine z_iinc (n := 1) (x := zI 6) (y := zI 7) (lv' := [(4, .int (zI 7)), (3, .int (zI u7.1)), (0, .ref (g.2.2 91)), (1, .int (zI a2)), (2, .ref (ks.1 5))]) cx 1 d_L_add_26 29 rfl rfl (by decide) rfl (by decide) ?_
  refine z_goto cx d_L_add_29 5 (by decide) ?_
  refine z_iload cx d_L_add_5 7 rfl 0 rfl ?_
  refine z_aload_n cx d_L_add_7 8 rfl rfl 4 rfl ?_
  refine z_callVs_i (As := []) (rest := [.int (zI 7)]) cx hE (tJ_length (i := 5) (v := zI 8) (by decide) (by decide)) d_L_add_8 11 rfl kJ_length q_697 q_140 q_141 rfl (hE.2.1.1 5 (by decide)).1 ⟨rfl, rfl⟩ ⟨Nat.le_of_ble_eq_true rfl, Nat.le_of_ble_eq_true rfl⟩ rfl rfl (Nat.le_of_ble_eq_true rfl) ⟨Nat.zero_le _, Nat.zero_le _⟩ ?_
  refine z_icmp_ge cx d_L_add_11 14 rfl 32 (by decide) (fun h => absurd h (by decide)) (fun _ => ?_)
  refine z_aload_n cx d_L_add_14 15 rfl rfl 2 rfl ?_
  refine z_iload_n cx d_L_add_15 16 rfl rfl 1 rfl ?_
  refine z_aload_n cx d_L_add_16 17 rfl rfl 4 rfl ?_
  refine z_iload cx d_L_add_17 19 rfl 0 rfl ?_
  refine z_callVs_i (As := [.int (zI 7)]) (rest := [.int (zI u7.1), .ref (g.2.2 91)]) cx hE (tJ_charAt (i := 5) (v := zI 32) (by decide) (by decide) (by decide) (vp_in_iff.mpr (by decide)) (by decide) (by decide)) d_L_add_19 22 rfl kJ_charAt q_698 q_151 q_152 rfl (hE.2.1.1 5 (by decide)).1 ⟨rfl, rfl⟩ ⟨Nat.le_of_ble_eq_true rfl, Nat.le_of_ble_eq_true rfl⟩ rfl rfl (Nat.le_of_ble_eq_true rfl) ⟨Nat.zero_le _, Nat.zero_le _⟩ ?_
  refine y_callS_i (As := [.ref (g.2.2 91), .int (zI u7.1), .int (zI 32)]) (rest := []) (W := fun u => wX g X N T Rd Fr Ac Ch PS Ly Pa OT Ea Ga Im0 Im1 u.2) (rf := fun u => zI u.1) (rm := zr0) cx (fun _ hq => tL_put hq) d_L_add_22 25 rfl kk_L_put q_699 q_700 ⟨rfl, rfl⟩ ⟨Nat.le_of_ble_eq_true rfl, Nat.le_of_ble_eq_true rfl⟩ rfl rfl (Nat.le_of_ble_eq_true rfl) ⟨Nat.zero_le _, Nat.zero_le _⟩ h (fun u8 h => ?_)
  refine y_istore_n cx d_L_add_25 26 rfl rfl (by decide) (lv' := [(3, .int (zI u8.1)), (4, .int (zI 7)), (0, .ref (g.2.2 91)), (1, .int (zI a2)), (2, .ref (ks.1 5))]) rfl ?_
  refine z_iinc (n := 1) (x := zI 7) (y := zI 8) (lv' := [(4, .int (zI 8)), (3, .int (zI u8.1)), (0, .ref (g.2.2 91)), (1, .int (zI a2)), (2, .ref (ks.1 5))]) cx 1 d_L_add_26 29 rfl rfl (by decide) rfl (by decide) ?_
  refine z_goto cx d_L_add_29 5 (by decide) ?_
  refine z_iload cx d_L_add_5 7 rfl 0 rfl ?_
  refine z_aload_n cx d_L_add_7 8 rfl rfl 4 rfl ?_
  refine z_callVs_i (As := []) (rest := [.int (zI 8)]) cx hE (tJ_length (i := 5) (v := zI 8) (by decide) (by decide)) d_L_add_8 11 rfl kJ_length q_697 q_140 q_141 rfl (hE.2.1.1 5 (by decide)).1 ⟨rfl, rfl⟩ ⟨Nat.le_of_ble_eq_true rfl, Nat.le_of_ble_eq_true rfl⟩ rfl rfl (Nat.le_of_ble_eq_true rfl) ⟨Nat.zero_le _, Nat.zero_le _⟩ ?_
  refine z_icmp_ge cx d_L_add_11 14 rfl 32 (by decide) (fun _ => ?_) (fun h => absurd h (by decide))
  refine z_iload_n cx d_L_add_32 33 rfl rfl 1 rfl ?_
  subst hQ
  obtain rfl := Option.some.inj h
  exact z_iret cx d_L_add_33 rfl rfl
