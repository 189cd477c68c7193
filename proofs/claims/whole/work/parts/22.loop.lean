-- needs: 21.law1 21.law2 21.law3
set_option maxHeartbeats 4000000 in
theorem lawLoop {p : Program} {l : Launch} {e : Env} {s : State} {m : MethodId} {args : Array Value} {below : List Frame} {meth : Method} {c : Code} {A : Nat → Prop} {g : ZG} {Q : State → Prop} {ks : ZS} {adx adm : Nat → Nat} {o9 b L : Nat} {xs : Nat → Int32} {INV : ZB → ZB → ZB → ZB → ZB → ZA → ZB → ZB → ZB → ZQ → ZB → ZB → ZB → Option ZB → Option ZB → ZB → Prop} (cx : zC p s m args meth c code "ForestPacksLaw" 7 A s.heap g ret) (hE : zE ks A s) (hl9 : l.stackTraces = false) (hX : va_X b L xs s s.heap) (hbl : b < s.heap.size) (hbA : ¬ A b) (hL : L ≤ 3072) (hS : Sim INV) (done : ∀ (w : va_W) (nc ns : Nat) (lv : List (Nat × Value)), nc ≤ 601024 → ns ≤ 7293034 → V p l e room_1 s m args below meth c A s.heap g 7 Q w nc ns lv 1366 []) : ∀ (n nc ns : Nat) (i : Int) (X : ZB) (N : ZB) (T : ZB) (Rd : ZB) (Fr : ZB) (Ac : ZA) (Ch : ZB) (PS : ZB) (Ly : ZB) (Pa : ZQ) (OT : ZB) (Ea : ZB) (Ga : ZB) (Im0 Im1 : ZO) (M : ZB) (f : Nat → Int), 0 ≤ i → i ≤ L + 6 → (L : Int) < i + 6 * n + 6 → nc + 5 * n + 5 ≤ 601024 → ns + 105 * n + 105 ≤ 7293034 → INV X N T Rd Fr Ac Ch PS Ly Pa OT Ea Ga (cont Im0) (cont Im1) M → V p l e room_1 s m args below meth c A s.heap g 7 Q (wX (g.1, g.2.1, adx) X N T Rd Fr Ac Ch PS Ly Pa OT Ea Ga Im0 Im1 ++ (wM (g.1, g.2.1, adm) M ++ [(o9, .inl (g.2.1 1, 1, .inr (.inl (wj (f)))))])) (nc) (ns) [(0, .ref b), (1, .ref (adx 0)), (2, .ref (adm 0)), (3, .ref o9), (4, .int (zI i))] 23 [] := by
  intro n
  induction n using Nat.strongRecOn with
  | ind n ih =>
  intro nc ns i X N T Rd Fr Ac Ch PS Ly Pa OT Ea Ga Im0 Im1 M f hi hi2 hn hnc hns hI
  refine z_iload cx dW_23 25 rfl 4 rfl ?_
  refine z_aload_n cx dW_25 26 rfl rfl 0 rfl ?_
  refine z_slen cx hX hbl hbA dW_26 27 rfl ?_
  refine y_bipush cx dW_27 29 rfl (by decide) ?_
  refine y_isub cx dW_29 30 rfl ?_
  refine z_icmp_gt cx dW_30 33 rfl 1366 (by decide) (fun _ => done _ _ _ _ (by omega) (by omega)) (fun hc => ?_)
  have hc : i + 6 ≤ L := by
    rcases Int.lt_or_le (L : Int) (i + 6) with q | q
    · exact absurd (zI_lt.mpr (by rw [nm_eq (by omega) (by omega), nm_eq (by omega) (by omega)]; omega)) hc
    · exact q
  have next : ∀ (X : ZB) (N : ZB) (T : ZB) (Rd : ZB) (Fr : ZB) (Ac : ZA) (Ch : ZB) (PS : ZB) (Ly : ZB) (Pa : ZQ) (OT : ZB) (Ea : ZB) (Ga : ZB) (q0 q1 : ZO) (M : ZB) (f : Nat → Int), INV X N T Rd Fr Ac Ch PS Ly Pa OT Ea Ga (cont q0) (cont q1) M → V p l e room_1 s m args below meth c A s.heap g 7 Q (wX (g.1, g.2.1, adx) X N T Rd Fr Ac Ch PS Ly Pa OT Ea Ga q0 q1 ++ (wM (g.1, g.2.1, adm) M ++ [(o9, .inl (g.2.1 1, 1, .inr (.inl (wj (f)))))])) (nc + 5) (ns + 105) [(0, .ref b), (1, .ref (adx 0)), (2, .ref (adm 0)), (3, .ref o9), (4, .int (zI i))] 1360 [] := by
    intro X N T Rd Fr Ac Ch PS Ly Pa OT Ea Ga q0 q1 M f hI
    rcases n with _ | n
    · exact absurd hc (by omega)
    · refine y_iinc cx 4 dW_1360 1363 rfl rfl (by decide) (lv' := [(4, .int (zI (i + 6))), (0, .ref b), (1, .ref (adx 0)), (2, .ref (adm 0)), (3, .ref o9)]) rfl ?_
      refine z_goto cx dW_1363 23 (by decide) ?_
      refine z_sub [1, 2, 3, 4, 0] rfl ?_
      exact ih n (Nat.lt_succ_self n) (nc + 5) (ns + 105) (i + 6) _ _ _ _ _ _ _ _ _ _ _ _ _ q0 q1 M f (by omega) (by omega) (by omega) (by omega) (by omega) hI
  refine z_aload_n cx dW_33 34 rfl rfl 0 rfl ?_
  refine z_iload cx dW_34 36 rfl 4 rfl ?_
  refine z_sld cx hX hbl hbA ⟨hi, by omega⟩ hL dW_36 37 rfl ?_
  refine y_bipush cx dW_37 39 rfl (by decide) ?_
  refine y_iand cx dW_39 40 rfl ?_
  obtain ⟨h_0, h_1, h_2, h_3, h_4, h_5, h_6, h_7, h_8, h_9, h_10, h_11, h_12, h_13, h_14, h_15, h_16, h_17, h_18, h_19, h_20, h_21, h_22, h_23, h_24, h_25, h_26, h_27, h_28, h_29, h_30, h_31, h_32, h_33, h_34, h_35, h_36, h_37, h_38, h_39, h_40, h_41⟩ := hS
  by_cases c_0 : zand (zsc xs i) 63 = 0
  · exact y_swIn cx dW_40 0 ((nm_zand _ _).trans c_0) 224 (by decide) (by decide) rfl (by decide) (lawC_0 cx hE hl9 hX hbl hbA hL ⟨hi, hc⟩ (by omega) (by omega) hI h_0 next)
  by_cases c_1 : zand (zsc xs i) 63 = 1
  · exact y_swIn cx dW_40 1 ((nm_zand _ _).trans c_1) 297 (by decide) (by decide) rfl (by decide) (lawC_1 cx hE hl9 hX hbl hbA hL ⟨hi, hc⟩ (by omega) (by omega) hI h_1 next)
  by_cases c_2 : zand (zsc xs i) 63 = 2
  · exact y_swIn cx dW_40 2 ((nm_zand _ _).trans c_2) 322 (by decide) (by decide) rfl (by decide) (lawC_2 cx hE hl9 hX hbl hbA hL ⟨hi, hc⟩ (by omega) (by omega) hI h_2 next)
  by_cases c_3 : zand (zsc xs i) 63 = 3
  · exact y_swIn cx dW_40 3 ((nm_zand _ _).trans c_3) 335 (by decide) (by decide) rfl (by decide) (lawC_3 cx hE hl9 hX hbl hbA hL ⟨hi, hc⟩ (by omega) (by omega) hI h_3 next)
  by_cases c_4 : zand (zsc xs i) 63 = 4
  · exact y_swIn cx dW_40 4 ((nm_zand _ _).trans c_4) 348 (by decide) (by decide) rfl (by decide) (lawC_4 cx hE hl9 hX hbl hbA hL ⟨hi, hc⟩ (by omega) (by omega) hI h_4 next)
  by_cases c_5 : zand (zsc xs i) 63 = 5
  · exact y_swIn cx dW_40 5 ((nm_zand _ _).trans c_5) 373 (by decide) (by decide) rfl (by decide) (lawC_5 cx hE hl9 hX hbl hbA hL ⟨hi, hc⟩ (by omega) (by omega) hI h_5 next)
  by_cases c_6 : zand (zsc xs i) 63 = 6
  · exact y_swIn cx dW_40 6 ((nm_zand _ _).trans c_6) 441 (by decide) (by decide) rfl (by decide) (lawC_6 cx hE hl9 hX hbl hbA hL ⟨hi, hc⟩ (by omega) (by omega) hI h_6 next)
  by_cases c_7 : zand (zsc xs i) 63 = 7
  · exact y_swIn cx dW_40 7 ((nm_zand _ _).trans c_7) 509 (by decide) (by decide) rfl (by decide) (lawC_7 cx hE hl9 hX hbl hbA hL ⟨hi, hc⟩ (by omega) (by omega) hI h_7 next)
  by_cases c_8 : zand (zsc xs i) 63 = 8
  · exact y_swIn cx dW_40 8 ((nm_zand _ _).trans c_8) 534 (by decide) (by decide) rfl (by decide) (lawC_8 cx hE hl9 hX hbl hbA hL ⟨hi, hc⟩ (by omega) (by omega) hI h_8 next)
  by_cases c_9 : zand (zsc xs i) 63 = 9
  · exact y_swIn cx dW_40 9 ((nm_zand _ _).trans c_9) 559 (by decide) (by decide) rfl (by decide) (lawC_9 cx hE hl9 hX hbl hbA hL ⟨hi, hc⟩ (by omega) (by omega) hI h_9 next)
  by_cases c_10 : zand (zsc xs i) 63 = 10
  · exact y_swIn cx dW_40 10 ((nm_zand _ _).trans c_10) 596 (by decide) (by decide) rfl (by decide) (lawC_10 cx hE hl9 hX hbl hbA hL ⟨hi, hc⟩ (by omega) (by omega) hI h_10 next)
  by_cases c_11 : zand (zsc xs i) 63 = 11
  · exact y_swIn cx dW_40 11 ((nm_zand _ _).trans c_11) 621 (by decide) (by decide) rfl (by decide) (lawC_11 cx hE hl9 hX hbl hbA hL ⟨hi, hc⟩ (by omega) (by omega) hI h_11 next)
  by_cases c_12 : zand (zsc xs i) 63 = 12
  · exact y_swIn cx dW_40 12 ((nm_zand _ _).trans c_12) 646 (by decide) (by decide) rfl (by decide) (lawC_12 cx hE hl9 hX hbl hbA hL ⟨hi, hc⟩ (by omega) (by omega) hI h_12 next)
  by_cases c_13 : zand (zsc xs i) 63 = 13
  · exact y_swIn cx dW_40 13 ((nm_zand _ _).trans c_13) 671 (by decide) (by decide) rfl (by decide) (lawC_13 cx hE hl9 hX hbl hbA hL ⟨hi, hc⟩ (by omega) (by omega) hI h_13 next)
  by_cases c_14 : zand (zsc xs i) 63 = 14
  · exact y_swIn cx dW_40 14 ((nm_zand _ _).trans c_14) 708 (by decide) (by decide) rfl (by decide) (lawC_14 cx hE hl9 hX hbl hbA hL ⟨hi, hc⟩ (by omega) (by omega) hI h_14 next)
  by_cases c_15 : zand (zsc xs i) 63 = 15
  · exact y_swIn cx dW_40 15 ((nm_zand _ _).trans c_15) 721 (by decide) (by decide) rfl (by decide) (lawC_15 cx hE hl9 hX hbl hbA hL ⟨hi, hc⟩ (by omega) (by omega) hI h_15 next)
  by_cases c_16 : zand (zsc xs i) 63 = 16
  · exact y_swIn cx dW_40 16 ((nm_zand _ _).trans c_16) 734 (by decide) (by decide) rfl (by decide) (lawC_16 cx hE hl9 hX hbl hbA hL ⟨hi, hc⟩ (by omega) (by omega) hI h_16 next)
  by_cases c_17 : zand (zsc xs i) 63 = 17
  · exact y_swIn cx dW_40 17 ((nm_zand _ _).trans c_17) 771 (by decide) (by decide) rfl (by decide) (lawC_17 cx hE hl9 hX hbl hbA hL ⟨hi, hc⟩ (by omega) (by omega) hI h_17 next)
  by_cases c_18 : zand (zsc xs i) 63 = 18
  · exact y_swIn cx dW_40 18 ((nm_zand _ _).trans c_18) 796 (by decide) (by decide) rfl (by decide) (lawC_18 cx hE hl9 hX hbl hbA hL ⟨hi, hc⟩ (by omega) (by omega) hI h_18 next)
  by_cases c_19 : zand (zsc xs i) 63 = 19
  · exact y_swIn cx dW_40 19 ((nm_zand _ _).trans c_19) 821 (by decide) (by decide) rfl (by decide) (lawC_19 cx hE hl9 hX hbl hbA hL ⟨hi, hc⟩ (by omega) (by omega) hI h_19 next)
  by_cases c_20 : zand (zsc xs i) 63 = 20
  · exact y_swIn cx dW_40 20 ((nm_zand _ _).trans c_20) 858 (by decide) (by decide) rfl (by decide) (lawC_20 cx hE hl9 hX hbl hbA hL ⟨hi, hc⟩ (by omega) (by omega) hI h_20 next)
  by_cases c_21 : zand (zsc xs i) 63 = 21
  · exact y_swIn cx dW_40 21 ((nm_zand _ _).trans c_21) 883 (by decide) (by decide) rfl (by decide) (lawC_21 cx hE hl9 hX hbl hbA hL ⟨hi, hc⟩ (by omega) (by omega) hI h_21 next)
  by_cases c_22 : zand (zsc xs i) 63 = 22
  · exact y_swIn cx dW_40 22 ((nm_zand _ _).trans c_22) 908 (by decide) (by decide) rfl (by decide) (lawC_22 cx hE hl9 hX hbl hbA hL ⟨hi, hc⟩ (by omega) (by omega) hI h_22 next)
  by_cases c_23 : zand (zsc xs i) 63 = 23
  · exact y_swIn cx dW_40 23 ((nm_zand _ _).trans c_23) 921 (by decide) (by decide) rfl (by decide) (lawC_23 cx hE hl9 hX hbl hbA hL ⟨hi, hc⟩ (by omega) (by omega) hI h_23 next)
  by_cases c_24 : zand (zsc xs i) 63 = 24
  · exact y_swIn cx dW_40 24 ((nm_zand _ _).trans c_24) 934 (by decide) (by decide) rfl (by decide) (lawC_24 cx hE hl9 hX hbl hbA hL ⟨hi, hc⟩ (by omega) (by omega) hI h_24 next)
  by_cases c_25 : zand (zsc xs i) 63 = 25
  · exact y_swIn cx dW_40 25 ((nm_zand _ _).trans c_25) 959 (by decide) (by decide) rfl (by decide) (lawC_25 cx hE hl9 hX hbl hbA hL ⟨hi, hc⟩ (by omega) (by omega) hI h_25 next)
  by_cases c_26 : zand (zsc xs i) 63 = 26
  · exact y_swIn cx dW_40 26 ((nm_zand _ _).trans c_26) 972 (by decide) (by decide) rfl (by decide) (lawC_26 cx hE hl9 hX hbl hbA hL ⟨hi, hc⟩ (by omega) (by omega) hI h_26 next)
  by_cases c_27 : zand (zsc xs i) 63 = 27
  · exact y_swIn cx dW_40 27 ((nm_zand _ _).trans c_27) 997 (by decide) (by decide) rfl (by decide) (lawC_27 cx hE hl9 hX hbl hbA hL ⟨hi, hc⟩ (by omega) (by omega) hI h_27 next)
  by_cases c_28 : zand (zsc xs i) 63 = 28
  · exact y_swIn cx dW_40 28 ((nm_zand _ _).trans c_28) 1010 (by decide) (by decide) rfl (by decide) (lawC_28 cx hE hl9 hX hbl hbA hL ⟨hi, hc⟩ (by omega) (by omega) hI h_28 next)
  by_cases c_29 : zand (zsc xs i) 63 = 29
  · exact y_swIn cx dW_40 29 ((nm_zand _ _).trans c_29) 1023 (by decide) (by decide) rfl (by decide) (lawC_29 cx hE hl9 hX hbl hbA hL ⟨hi, hc⟩ (by omega) (by omega) hI h_29 next)
  by_cases c_30 : zand (zsc xs i) 63 = 30
  · exact y_swIn cx dW_40 30 ((nm_zand _ _).trans c_30) 1048 (by decide) (by decide) rfl (by decide) (lawC_30 cx hE hl9 hX hbl hbA hL ⟨hi, hc⟩ (by omega) (by omega) hI h_30 next)
  by_cases c_31 : zand (zsc xs i) 63 = 31
  · exact y_swIn cx dW_40 31 ((nm_zand _ _).trans c_31) 1073 (by decide) (by decide) rfl (by decide) (lawC_31 cx hE hl9 hX hbl hbA hL ⟨hi, hc⟩ (by omega) (by omega) hI h_31 next)
  by_cases c_32 : zand (zsc xs i) 63 = 32
  · exact y_swIn cx dW_40 32 ((nm_zand _ _).trans c_32) 1098 (by decide) (by decide) rfl (by decide) (lawC_32 cx hE hl9 hX hbl hbA hL ⟨hi, hc⟩ (by omega) (by omega) hI h_32 next)
  by_cases c_33 : zand (zsc xs i) 63 = 33
  · exact y_swIn cx dW_40 33 ((nm_zand _ _).trans c_33) 1111 (by decide) (by decide) rfl (by decide) (lawC_33 cx hE hl9 hX hbl hbA hL ⟨hi, hc⟩ (by omega) (by omega) hI h_33 next)
  by_cases c_34 : zand (zsc xs i) 63 = 34
  · exact y_swIn cx dW_40 34 ((nm_zand _ _).trans c_34) 1136 (by decide) (by decide) rfl (by decide) (lawC_34 cx hE hl9 hX hbl hbA hL ⟨hi, hc⟩ (by omega) (by omega) hI h_34 next)
  by_cases c_35 : zand (zsc xs i) 63 = 35
  · exact y_swIn cx dW_40 35 ((nm_zand _ _).trans c_35) 1173 (by decide) (by decide) rfl (by decide) (lawC_35 cx hE hl9 hX hbl hbA hL ⟨hi, hc⟩ (by omega) (by omega) hI h_35 next)
  by_cases c_36 : zand (zsc xs i) 63 = 36
  · exact y_swIn cx dW_40 36 ((nm_zand _ _).trans c_36) 1186 (by decide) (by decide) rfl (by decide) (lawC_36 cx hE hl9 hX hbl hbA hL ⟨hi, hc⟩ (by omega) (by omega) hI h_36 next)
  by_cases c_37 : zand (zsc xs i) 63 = 37
  · exact y_swIn cx dW_40 37 ((nm_zand _ _).trans c_37) 1199 (by decide) (by decide) rfl (by decide) (lawC_37 cx hE hl9 hX hbl hbA hL ⟨hi, hc⟩ (by omega) (by omega) hI h_37 next)
  by_cases c_38 : zand (zsc xs i) 63 = 38
  · exact y_swIn cx dW_40 38 ((nm_zand _ _).trans c_38) 1236 (by decide) (by decide) rfl (by decide) (lawC_38 cx hE hl9 hX hbl hbA hL ⟨hi, hc⟩ (by omega) (by omega) hI h_38 next)
  by_cases c_39 : zand (zsc xs i) 63 = 39
  · exact y_swIn cx dW_40 39 ((nm_zand _ _).trans c_39) 1273 (by decide) (by decide) rfl (by decide) (lawC_39 cx hE hl9 hX hbl hbA hL ⟨hi, hc⟩ (by omega) (by omega) hI h_39 next)
  by_cases c_40 : zand (zsc xs i) 63 = 40
  · exact y_swIn cx dW_40 40 ((nm_zand _ _).trans c_40) 1310 (by decide) (by decide) rfl (by decide) (lawC_40 cx hE hl9 hX hbl hbA hL ⟨hi, hc⟩ (by omega) (by omega) hI h_40 next)
  by_cases c_41 : zand (zsc xs i) 63 = 41
  · exact y_swIn cx dW_40 41 ((nm_zand _ _).trans c_41) 1335 (by decide) (by decide) rfl (by decide) (lawC_41 cx hE hl9 hX hbl hbA hL ⟨hi, hc⟩ (by omega) (by omega) hI h_41 next)
  refine y_swOut cx dW_40 (by rw [nm_zand]; omega) 1360 (by decide) ?_
  refine z_widen (k := nc + 5) (n := ns + 105) (by omega) (by omega) ?_
  exact next _ _ _ _ _ _ _ _ _ _ _ _ _ Im0 Im1 M f hI
