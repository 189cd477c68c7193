-- needs: 17.cons0
set_option maxHeartbeats 4000000 in
theorem tC_X5_init {l : Launch} {ks : ZS} {g : ZG} {h : Nat} : zMa l ks yX5_init cX5_init 1 zC_X5_init g [.ref h] [(h, .inr (5, [.null, .null, .null, .null, .int 0, .int 0, .int 0, .int 0, .int 0]))] (wI_X5_init g h) := by
  refine zMa_of (own := RX5) rfl (by decide +kernel) (Nat.le_of_ble_eq_true rfl) (lv := [(0, .ref h)]) rfl rfl ?_
  intro p e s m args below meth c A Q hQ cx hE hin
  refine z_aload_n cx dC_X5_init_0 1 rfl rfl 0 rfl ?_
  refine z_obj cx dC_X5_init_1 4 rfl qk_63 qk_56 qk_57 (Nat.le_of_ble_eq_true rfl) (Nat.le_of_ble_eq_true rfl) ?_
  refine z_aload_n cx dC_X5_init_4 5 rfl rfl 0 rfl ?_
  refine y_bipush cx dC_X5_init_5 7 rfl (by decide) ?_
  refine z_newa (ty := .int) (n := 24) (a0 := (24, .inl (wi (fun _ => 0)))) (W := fun p1 => ((h, .inr (5, [.null, .null, .null, .null, .int 0, .int 0, .int 0, .int 0, .int 0])) :: ([(p1, .inl (g.2.1 0, 24, .inl (wi (fun _ => 0))))]))) cx 0 dC_X5_init_7 9 rfl qk_113 rfl rfl (fun _ _ h => h) (fun _ => rfl) (by decide) (by decide) (Nat.le_of_ble_eq_true rfl) (Nat.le_of_ble_eq_true rfl) (fun _ => rfl) (fun p1 => ?_)
  refine z_putF (q0 := 0) (ci := 5) (w' := ((h, .inr (5, [.ref p1, .null, .null, .null, .int 0, .int 0, .int 0, .int 0, .int 0])) :: ([(p1, .inl (g.2.1 0, 24, .inl (wi (fun _ => 0))))]))) cx hin dC_X5_init_9 12 rfl rfl rfl zX5 tyX5_ok nmX5 0 (by decide) qk_64 rfl rfl rfl rfl rfl (Nat.le_of_ble_eq_true rfl) rfl ?_
  refine z_aload_n cx dC_X5_init_12 13 rfl rfl 0 rfl ?_
  refine y_bipush cx dC_X5_init_13 15 rfl (by decide) ?_
  refine z_newa (ty := .int) (n := 24) (a0 := (24, .inl (wi (fun _ => 0)))) (W := fun p2 => ((h, .inr (5, [.ref p1, .null, .null, .null, .int 0, .int 0, .int 0, .int 0, .int 0])) :: ([(p1, .inl (g.2.1 0, 24, .inl (wi (fun _ => 0))))] ++ [(p2, .inl (g.2.1 0, 24, .inl (wi (fun _ => 0))))]))) cx 0 dC_X5_init_15 17 rfl qk_113 rfl rfl (fun _ _ h => h) (fun _ => rfl) (by decide) (by decide) (Nat.le_of_ble_eq_true rfl) (Nat.le_of_ble_eq_true rfl) (fun _ => rfl) (fun p2 => ?_)
  refine z_putF (q0 := 0) (ci := 5) (w' := ((h, .inr (5, [.ref p1, .ref p2, .null, .null, .int 0, .int 0, .int 0, .int 0, .int 0])) :: ([(p1, .inl (g.2.1 0, 24, .inl (wi (fun _ => 0))))] ++ [(p2, .inl (g.2.1 0, 24, .inl (wi (fun _ => 0))))]))) cx hin dC_X5_init_17 20 rfl rfl rfl zX5 tyX5_ok nmX5 1 (by decide) qk_68 rfl rfl rfl rfl rfl (Nat.le_of_ble_eq_true rfl) rfl ?_
  refine z_aload_n cx dC_X5_init_20 21 rfl rfl 0 rfl ?_
  refine y_bipush cx dC_X5_init_21 23 rfl (by decide) ?_
  refine z_newa (ty := .int) (n := 24) (a0 := (24, .inl (wi (fun _ => 0)))) (W := fun p3 => ((h, .inr (5, [.ref p1, .ref p2, .null, .null, .int 0, .int 0, .int 0, .int 0, .int 0])) :: ([(p1, .inl (g.2.1 0, 24, .inl (wi (fun _ => 0))))] ++ [(p2, .inl (g.2.1 0, 24, .inl (wi (fun _ => 0))))] ++ [(p3, .inl (g.2.1 0, 24, .inl (wi (fun _ => 0))))]))) cx 0 dC_X5_init_23 25 rfl qk_113 rfl rfl (fun _ _ h => h) (fun _ => rfl) (by decide) (by decide) (Nat.le_of_ble_eq_true rfl) (Nat.le_of_ble_eq_true rfl) (fun _ => rfl) (fun p3 => ?_)
  refine z_putF (q0 := 0) (ci := 5) (w' := ((h, .inr (5, [.ref p1, .ref p2, .ref p3, .null, .int 0, .int 0, .int 0, .int 0, .int 0])) :: ([(p1, .inl (g.2.1 0, 24, .inl (wi (fun _ => 0))))] ++ [(p2, .inl (g.2.1 0, 24, .inl (wi (fun _ => 0))))] ++ [(p3, .inl (g.2.1 0, 24, .inl (wi (fun _ => 0))))]))) cx hin dC_X5_init_25 28 rfl rfl rfl zX5 tyX5_ok nmX5 2 (by decide) qk_72 rfl rfl rfl rfl rfl (Nat.le_of_ble_eq_true rfl) rfl ?_
  refine z_aload_n cx dC_X5_init_28 29 rfl rfl 0 rfl ?_
  refine y_bipush cx dC_X5_init_29 31 rfl (by decide) ?_
  refine z_newa (ty := .int) (n := 24) (a0 := (24, .inl (wi (fun _ => 0)))) (W := fun p4 => ((h, .inr (5, [.ref p1, .ref p2, .ref p3, .null, .int 0, .int 0, .int 0, .int 0, .int 0])) :: ([(p1, .inl (g.2.1 0, 24, .inl (wi (fun _ => 0))))] ++ [(p2, .inl (g.2.1 0, 24, .inl (wi (fun _ => 0))))] ++ [(p3, .inl (g.2.1 0, 24, .inl (wi (fun _ => 0))))] ++ [(p4, .inl (g.2.1 0, 24, .inl (wi (fun _ => 0))))]))) cx 0 dC_X5_init_31 33 rfl qk_113 rfl rfl (fun _ _ h => h) (fun _ => rfl) (by decide) (by decide) (Nat.le_of_ble_eq_true rfl) (Nat.le_of_ble_eq_true rfl) (fun _ => rfl) (fun p4 => ?_)
  refine z_putF (q0 := 0) (ci := 5) (w' := ((h, .inr (5, [.ref p1, .ref p2, .ref p3, .ref p4, .int 0, .int 0, .int 0, .int 0, .int 0])) :: ([(p1, .inl (g.2.1 0, 24, .inl (wi (fun _ => 0))))] ++ [(p2, .inl (g.2.1 0, 24, .inl (wi (fun _ => 0))))] ++ [(p3, .inl (g.2.1 0, 24, .inl (wi (fun _ => 0))))] ++ [(p4, .inl (g.2.1 0, 24, .inl (wi (fun _ => 0))))]))) cx hin dC_X5_init_33 36 rfl rfl rfl zX5 tyX5_ok nmX5 3 (by decide) qk_74 rfl rfl rfl rfl rfl (Nat.le_of_ble_eq_true rfl) rfl ?_
  refine z_aload_n cx dC_X5_init_36 37 rfl rfl 0 rfl ?_
  refine y_iconst cx dC_X5_init_37 38 rfl ?_
  refine z_put (q0 := 0) (ci := 5) (w' := ((h, .inr (5, [.ref p1, .ref p2, .ref p3, .ref p4, .int 0, .int 0, .int (zI 2), .int 0, .int 0])) :: ([(p1, .inl (g.2.1 0, 24, .inl (wi (fun _ => 0))))] ++ [(p2, .inl (g.2.1 0, 24, .inl (wi (fun _ => 0))))] ++ [(p3, .inl (g.2.1 0, 24, .inl (wi (fun _ => 0))))] ++ [(p4, .inl (g.2.1 0, 24, .inl (wi (fun _ => 0))))]))) cx dC_X5_init_38 41 rfl rfl rfl zX5 tyX5_ok nmX5 6 (by decide) qk_88 rfl rfl rfl rfl (Nat.le_of_ble_eq_true rfl) rfl ?_
  refine z_widen (k := 4) (n := 96) (Nat.le_of_ble_eq_true rfl) (Nat.le_of_ble_eq_true rfl) ?_
  subst hQ
  exact z_vretA (W9 := wI_X5_init g h) cx dC_X5_init_41 (fun i => [p1, p2, p3, p4].getD i 0) rfl
set_option maxHeartbeats 4000000 in
theorem tC_X10_init {l : Launch} {ks : ZS} {g : ZG} {h : Nat} : zMa l ks yX10_init cX10_init 1 zC_X10_init g [.ref h] [(h, .inr (10, [.null, .int 0]))] (wI_X10_init g h) := by
  refine zMa_of (own := RX10) rfl (by decide +kernel) (Nat.le_of_ble_eq_true rfl) (lv := [(0, .ref h)]) rfl rfl ?_
  intro p e s m args below meth c A Q hQ cx hE hin
  refine z_aload_n cx dC_X10_init_0 1 rfl rfl 0 rfl ?_
  refine z_obj cx dC_X10_init_1 4 rfl qk_119 qk_56 qk_57 (Nat.le_of_ble_eq_true rfl) (Nat.le_of_ble_eq_true rfl) ?_
  refine z_aload_n cx dC_X10_init_4 5 rfl rfl 0 rfl ?_
  refine y_sipush cx dC_X10_init_5 8 rfl (by decide) ?_
  refine z_newa (ty := .int) (n := 640) (a0 := (640, .inl (wi (fun _ => 0)))) (W := fun p1 => ((h, .inr (10, [.null, .int 0])) :: ([(p1, .inl (g.2.1 0, 640, .inl (wi (fun _ => 0))))]))) cx 0 dC_X10_init_8 10 rfl qk_113 rfl rfl (fun _ _ h => h) (fun _ => rfl) (by decide) (by decide) (Nat.le_of_ble_eq_true rfl) (Nat.le_of_ble_eq_true rfl) (fun _ => rfl) (fun p1 => ?_)
  refine z_putF (q0 := 0) (ci := 10) (w' := ((h, .inr (10, [.ref p1, .int 0])) :: ([(p1, .inl (g.2.1 0, 640, .inl (wi (fun _ => 0))))]))) cx hin dC_X10_init_10 13 rfl rfl rfl zX10 tyX10_ok nmX10 0 (by decide) qk_120 rfl rfl rfl rfl rfl (Nat.le_of_ble_eq_true rfl) rfl ?_
  refine z_widen (k := 1) (n := 640) (Nat.le_of_ble_eq_true rfl) (Nat.le_of_ble_eq_true rfl) ?_
  subst hQ
  exact z_vretA (W9 := wI_X10_init g h) cx dC_X10_init_13 (fun i => [p1].getD i 0) rfl
set_option maxHeartbeats 4000000 in
theorem tC_X9_init {l : Launch} {ks : ZS} {g : ZG} {h a1 : Nat} : zMa l ks yX9_init cX9_init 2 zC_X9_init g [.ref h, .ref a1] [(h, .inr (9, [.null, .null, .null, .long 0, .long 0, .long 0, .int 0, .int 0, .int 0, .int 0, .long 0, .int 0, .int 0]))] (wI_X9_init g h a1) := by
  refine zMa_of (own := RX9) rfl (by decide +kernel) (Nat.le_of_ble_eq_true rfl) (lv := [(0, .ref h), (1, .ref a1)]) rfl rfl ?_
  intro p e s m args below meth c A Q hQ cx hE hin
  refine z_aload_n cx dC_X9_init_0 1 rfl rfl 0 rfl ?_
  refine z_obj cx dC_X9_init_1 4 rfl qk_132 qk_56 qk_57 (Nat.le_of_ble_eq_true rfl) (Nat.le_of_ble_eq_true rfl) ?_
  refine z_aload_n cx dC_X9_init_4 5 rfl rfl 0 rfl ?_
  refine z_new (ci := 5) (fs := [.null, .null, .null, .null, .int 0, .int 0, .int 0, .int 0, .int 0]) (W := fun n1 => ((h, .inr (9, [.null, .null, .null, .long 0, .long 0, .long 0, .int 0, .int 0, .int 0, .int 0, .long 0, .int 0, .int 0])) :: ([(n1, .inr (5, [.null, .null, .null, .null, .int 0, .int 0, .int 0, .int 0, .int 0]))]))) cx dC_X9_init_5 8 rfl qk_133 zX5 tyX5 tyX5_ok qk_59 qk_28 rfl (fun j hj => by rcases (show j = 0 ∨ j = 1 ∨ j = 2 ∨ j = 3 ∨ j = 4 ∨ j = 5 ∨ j = 6 ∨ j = 7 ∨ j = 8 by omega) with rfl | rfl | rfl | rfl | rfl | rfl | rfl | rfl | rfl <;> rfl) (Nat.le_of_ble_eq_true rfl) (Nat.le_of_ble_eq_true rfl) (fun _ => rfl) (fun n1 => ?_)
  refine z_dup cx dC_X9_init_8 9 rfl rfl ?_
  refine z_callIN (As := []) (rest := [.ref n1, .ref h]) (wr := [(h, .inr (9, [.null, .null, .null, .long 0, .long 0, .long 0, .int 0, .int 0, .int 0, .int 0, .long 0, .int 0, .int 0]))]) (wc := [(n1, .inr (5, [.null, .null, .null, .null, .int 0, .int 0, .int 0, .int 0, .int 0]))]) (W := fun q2 => wI_X5_init g n1 q2) (W' := fun q2 => ((h, .inr (9, [.null, .null, .null, .long 0, .long 0, .long 0, .int 0, .int 0, .int 0, .int 0, .long 0, .int 0, .int 0])) :: (wI_X5_init g n1 q2))) cx hE tC_X5_init dC_X9_init_9 12 rfl kC_X5_init hE.1.2.2.1 qk_61 rfl rfl ⟨Nat.le_of_ble_eq_true rfl, Nat.le_of_ble_eq_true rfl⟩ rfl rfl (Nat.le_of_ble_eq_true rfl) ⟨Nat.le_of_ble_eq_true rfl, Nat.le_of_ble_eq_true rfl⟩ (fun _ => rfl) (fun q2 => ?_)
  refine z_putF (q0 := 0) (ci := 9) (w' := ((h, .inr (9, [.null, .ref n1, .null, .long 0, .long 0, .long 0, .int 0, .int 0, .int 0, .int 0, .long 0, .int 0, .int 0])) :: (wI_X5_init g n1 q2))) cx hin dC_X9_init_12 15 rfl rfl rfl zX9 tyX9_ok nmX9 1 (by decide) qk_194 rfl rfl rfl rfl rfl (Nat.le_of_ble_eq_true rfl) rfl ?_
  refine z_aload_n cx dC_X9_init_15 16 rfl rfl 0 rfl ?_
  refine y_bipush cx dC_X9_init_16 18 rfl (by decide) ?_
  refine z_newa (ty := .long) (n := 10) (a0 := (10, .inr (.inl (wj (fun _ => 0))))) (W := fun p3 => ((h, .inr (9, [.null, .ref n1, .null, .long 0, .long 0, .long 0, .int 0, .int 0, .int 0, .int 0, .long 0, .int 0, .int 0])) :: (wI_X5_init g n1 q2 ++ [(p3, .inl (g.2.1 1, 10, .inr (.inl (wj (fun _ => 0)))))]))) cx 1 dC_X9_init_18 20 rfl qk_233 rfl rfl (fun _ _ h => h) (fun _ => rfl) (by decide) (by decide) (Nat.le_of_ble_eq_true rfl) (Nat.le_of_ble_eq_true rfl) (fun _ => rfl) (fun p3 => ?_)
  refine z_putF (q0 := 0) (ci := 9) (w' := ((h, .inr (9, [.null, .ref n1, .ref p3, .long 0, .long 0, .long 0, .int 0, .int 0, .int 0, .int 0, .long 0, .int 0, .int 0])) :: (wI_X5_init g n1 q2 ++ [(p3, .inl (g.2.1 1, 10, .inr (.inl (wj (fun _ => 0)))))]))) cx hin dC_X9_init_20 23 rfl rfl rfl zX9 tyX9_ok nmX9 2 (by decide) qk_195 rfl rfl rfl rfl rfl (Nat.le_of_ble_eq_true rfl) rfl ?_
  refine z_aload_n cx dC_X9_init_23 24 rfl rfl 0 rfl ?_
  refine z_ldcS cx dC_X9_init_24 26 rfl hE.1.2.2.2.2.1 ?_
  refine z_callSs_l (As := [.ref (ks.1 0)]) (rest := [.ref h]) cx hE tJ_codeOf0 dC_X9_init_26 29 rfl kJ_codeOf qk_136 qk_137 ⟨rfl, rfl⟩ ⟨Nat.le_of_ble_eq_true rfl, Nat.le_of_ble_eq_true rfl⟩ rfl rfl (Nat.le_of_ble_eq_true rfl) ⟨Nat.le_of_ble_eq_true rfl, Nat.le_of_ble_eq_true rfl⟩ ?_
  refine z_putF (q0 := 0) (ci := 9) (w' := ((h, .inr (9, [.null, .ref n1, .ref p3, .long (zJ 8805260), .long 0, .long 0, .int 0, .int 0, .int 0, .int 0, .long 0, .int 0, .int 0])) :: (wI_X5_init g n1 q2 ++ [(p3, .inl (g.2.1 1, 10, .inr (.inl (wj (fun _ => 0)))))]))) cx hin dC_X9_init_29 32 rfl rfl rfl zX9 tyX9_ok nmX9 3 (by decide) qk_196 rfl rfl rfl rfl rfl (Nat.le_of_ble_eq_true rfl) rfl ?_
  refine z_aload_n cx dC_X9_init_32 33 rfl rfl 0 rfl ?_
  refine z_ldcS cx dC_X9_init_33 35 rfl hE.1.2.2.2.2.2.1 ?_
  refine z_callSs_l (As := [.ref (ks.1 1)]) (rest := [.ref h]) cx hE tJ_codeOf1 dC_X9_init_35 38 rfl kJ_codeOf qk_136 qk_137 ⟨rfl, rfl⟩ ⟨Nat.le_of_ble_eq_true rfl, Nat.le_of_ble_eq_true rfl⟩ rfl rfl (Nat.le_of_ble_eq_true rfl) ⟨Nat.le_of_ble_eq_true rfl, Nat.le_of_ble_eq_true rfl⟩ ?_
  refine z_putF (q0 := 0) (ci := 9) (w' := ((h, .inr (9, [.null, .ref n1, .ref p3, .long (zJ 8805260), .long (zJ 243140), .long 0, .int 0, .int 0, .int 0, .int 0, .long 0, .int 0, .int 0])) :: (wI_X5_init g n1 q2 ++ [(p3, .inl (g.2.1 1, 10, .inr (.inl (wj (fun _ => 0)))))]))) cx hin dC_X9_init_38 41 rfl rfl rfl zX9 tyX9_ok nmX9 4 (by decide) qk_197 rfl rfl rfl rfl rfl (Nat.le_of_ble_eq_true rfl) rfl ?_
  refine z_aload_n cx dC_X9_init_41 42 rfl rfl 0 rfl ?_
  refine z_ldcS cx dC_X9_init_42 44 rfl hE.1.2.2.2.2.2.2.1 ?_
  refine z_callSs_l (As := [.ref (ks.1 2)]) (rest := [.ref h]) cx hE tJ_codeOf2 dC_X9_init_44 47 rfl kJ_codeOf qk_136 qk_137 ⟨rfl, rfl⟩ ⟨Nat.le_of_ble_eq_true rfl, Nat.le_of_ble_eq_true rfl⟩ rfl rfl (Nat.le_of_ble_eq_true rfl) ⟨Nat.le_of_ble_eq_true rfl, Nat.le_of_ble_eq_true rfl⟩ ?_
  refine z_putF (q0 := 0) (ci := 9) (w' := ((h, .inr (9, [.null, .ref n1, .ref p3, .long (zJ 8805260), .long (zJ 243140), .long (zJ 2549435302), .int 0, .int 0, .int 0, .int 0, .long 0, .int 0, .int 0])) :: (wI_X5_init g n1 q2 ++ [(p3, .inl (g.2.1 1, 10, .inr (.inl (wj (fun _ => 0)))))]))) cx hin dC_X9_init_47 50 rfl rfl rfl zX9 tyX9_ok nmX9 5 (by decide) qk_198 rfl rfl rfl rfl rfl (Nat.le_of_ble_eq_true rfl) rfl ?_
  refine z_aload_n cx dC_X9_init_50 51 rfl rfl 0 rfl ?_
  refine z_aload_n cx dC_X9_init_51 52 rfl rfl 1 rfl ?_
  refine z_putF (q0 := 0) (ci := 9) (w' := ((h, .inr (9, [.ref a1, .ref n1, .ref p3, .long (zJ 8805260), .long (zJ 243140), .long (zJ 2549435302), .int 0, .int 0, .int 0, .int 0, .long 0, .int 0, .int 0])) :: (wI_X5_init g n1 q2 ++ [(p3, .inl (g.2.1 1, 10, .inr (.inl (wj (fun _ => 0)))))]))) cx hin dC_X9_init_52 55 rfl rfl rfl zX9 tyX9_ok nmX9 0 (by decide) qk_193 rfl rfl rfl rfl rfl (Nat.le_of_ble_eq_true rfl) rfl ?_
  refine z_widen (k := 6) (n := 115) (Nat.le_of_ble_eq_true rfl) (Nat.le_of_ble_eq_true rfl) ?_
  subst hQ
  exact z_vretA (W9 := wI_X9_init g h a1) cx dC_X9_init_55 (fun i => [n1, q2 0, q2 1, q2 2, q2 3, p3].getD i 0) rfl
set_option maxHeartbeats 4000000 in
theorem tC_X0_init {l : Launch} {ks : ZS} {g : ZG} {h a1 : Nat} : zMa l ks yX0_init cX0_init 3 zC_X0_init g [.ref h, .ref a1] [(h, .inr (0, [.null, .null, .int 0, .int 0]))] (wI_X0_init g h a1) := by
  refine zMa_of (own := RX0) rfl (by decide +kernel) (Nat.le_of_ble_eq_true rfl) (lv := [(0, .ref h), (1, .ref a1)]) rfl rfl ?_
  intro p e s m args below meth c A Q hQ cx hE hin
  refine z_aload_n cx dC_X0_init_0 1 rfl rfl 0 rfl ?_
  refine z_obj cx dC_X0_init_1 4 rfl qk_240 qk_56 qk_57 (Nat.le_of_ble_eq_true rfl) (Nat.le_of_ble_eq_true rfl) ?_
  refine z_aload_n cx dC_X0_init_4 5 rfl rfl 0 rfl ?_
  refine y_bipush cx dC_X0_init_5 7 rfl (by decide) ?_
  refine z_newq (n := 9) (W := fun p1 => ((h, .inr (0, [.null, .null, .int 0, .int 0])) :: ([(p1, .inl (g.2.1 3, 9, .inr (.inr (.inr (.inr (fun _ => none))))))]))) cx dC_X0_init_7 10 rfl qk_241 hE.1.2.2.2.2.2.2.2.2.2.2.1 (by decide) (Nat.le_of_ble_eq_true rfl) (Nat.le_of_ble_eq_true rfl) (fun _ => rfl) (fun p1 => ?_)
  refine z_putF (q0 := 0) (ci := 0) (w' := ((h, .inr (0, [.null, .ref p1, .int 0, .int 0])) :: ([(p1, .inl (g.2.1 3, 9, .inr (.inr (.inr (.inr (fun _ => none))))))]))) cx hin dC_X0_init_10 13 rfl rfl rfl zX0 tyX0_ok nmX0 1 (by decide) qk_245 rfl rfl rfl rfl rfl (Nat.le_of_ble_eq_true rfl) rfl ?_
  refine z_aload_n cx dC_X0_init_13 14 rfl rfl 0 rfl ?_
  refine z_aload_n cx dC_X0_init_14 15 rfl rfl 1 rfl ?_
  refine z_putF (q0 := 0) (ci := 0) (w' := ((h, .inr (0, [.ref a1, .ref p1, .int 0, .int 0])) :: ([(p1, .inl (g.2.1 3, 9, .inr (.inr (.inr (.inr (fun _ => none))))))]))) cx hin dC_X0_init_15 18 rfl rfl rfl zX0 tyX0_ok nmX0 0 (by decide) qk_244 rfl rfl rfl rfl rfl (Nat.le_of_ble_eq_true rfl) rfl ?_
  refine y_iconst cx dC_X0_init_18 19 rfl ?_
  refine y_istore_n cx dC_X0_init_19 20 rfl rfl (by decide) (lv' := [(2, .int (zI 0)), (0, .ref h), (1, .ref a1)]) rfl ?_
  refine z_iload_n cx dC_X0_init_20 21 rfl rfl 0 rfl ?_
  refine z_aload_n cx dC_X0_init_21 22 rfl rfl 1 rfl ?_
  refine z_get (q0 := 0) (ci := 0) cx dC_X0_init_22 25 rfl rfl rfl zX0 1 (by decide) qk_245 rfl rfl ?_
  refine z_alen (n := 9) (t0 := 3) (q0 := 1) (v := 9) cx dC_X0_init_25 26 rfl rfl rfl rfl ?_
  refine z_icmp_ge cx dC_X0_init_26 29 rfl 48 (by decide) (fun h => absurd h (by decide)) (fun _ => ?_)
  refine z_aload_n cx dC_X0_init_29 30 rfl rfl 1 rfl ?_
  refine z_get (q0 := 0) (ci := 0) cx dC_X0_init_30 33 rfl rfl rfl zX0 1 (by decide) qk_245 rfl rfl ?_
  refine z_iload_n cx dC_X0_init_33 34 rfl rfl 0 rfl ?_
  refine z_new (ci := 5) (fs := [.null, .null, .null, .null, .int 0, .int 0, .int 0, .int 0, .int 0]) (W := fun n2 => ((h, .inr (0, [.ref a1, .ref p1, .int 0, .int 0])) :: ([(p1, .inl (g.2.1 3, 9, .inr (.inr (.inr (.inr (fun _ => none))))))] ++ [(n2, .inr (5, [.null, .null, .null, .null, .int 0, .int 0, .int 0, .int 0, .int 0]))]))) cx dC_X0_init_34 37 rfl qk_241 zX5 tyX5 tyX5_ok qk_59 qk_28 rfl (fun j hj => by rcases (show j = 0 ∨ j = 1 ∨ j = 2 ∨ j = 3 ∨ j = 4 ∨ j = 5 ∨ j = 6 ∨ j = 7 ∨ j = 8 by omega) with rfl | rfl | rfl | rfl | rfl | rfl | rfl | rfl | rfl <;> rfl) (Nat.le_of_ble_eq_true rfl) (Nat.le_of_ble_eq_true rfl) (fun _ => rfl) (fun n2 => ?_)
  refine z_dup cx dC_X0_init_37 38 rfl rfl ?_
  refine z_callIN (As := []) (rest := [.ref n2, .int (zI 0), .ref p1]) (wr := ((h, .inr (0, [.ref a1, .ref p1, .int 0, .int 0])) :: ([(p1, .inl (g.2.1 3, 9, .inr (.inr (.inr (.inr (fun _ => none))))))]))) (wc := [(n2, .inr (5, [.null, .null, .null, .null, .int 0, .int 0, .int 0, .int 0, .int 0]))]) (W := fun q3 => wI_X5_init g n2 q3) (W' := fun q3 => ((h, .inr (0, [.ref a1, .ref p1, .int 0, .int 0])) :: ([(p1, .inl (g.2.1 3, 9, .inr (.inr (.inr (.inr (fun _ => none))))))] ++ wI_X5_init g n2 q3))) cx hE tC_X5_init dC_X0_init_38 41 rfl kC_X5_init hE.1.2.2.2.1 qk_61 rfl rfl ⟨Nat.le_of_ble_eq_true rfl, Nat.le_of_ble_eq_true rfl⟩ rfl rfl (Nat.le_of_ble_eq_true rfl) ⟨Nat.le_of_ble_eq_true rfl, Nat.le_of_ble_eq_true rfl⟩ (fun _ => rfl) (fun q3 => ?_)
  refine z_astq (i := 0) (n := 9) (w' := ((h, .inr (0, [.ref a1, .ref p1, .int 0, .int 0])) :: ([(p1, .inl (g.2.1 3, 9, .inr (.inr (.inr (.inr (va_up (fun _ => none) 0 (some n2)))))))] ++ wI_X5_init g n2 q3))) cx dC_X0_init_41 42 rfl 1 2 rfl rfl (by decide) (by decide) rfl ?_
  refine z_iinc (n := 1) (x := zI 0) (y := zI 1) (lv' := [(2, .int (zI 1)), (0, .ref h), (1, .ref a1)]) cx 0 dC_X0_init_42 45 rfl rfl (by decide) rfl (by decide) ?_
  refine z_goto cx dC_X0_init_45 20 (by decide) ?_
  refine z_iload_n cx dC_X0_init_20 21 rfl rfl 0 rfl ?_
  refine z_aload_n cx dC_X0_init_21 22 rfl rfl 1 rfl ?_
  refine z_get (q0 := 0) (ci := 0) cx dC_X0_init_22 25 rfl rfl rfl zX0 1 (by decide) qk_245 rfl rfl ?_
  refine z_alen (n := 9) (t0 := 3) (q0 := 1) (v := 9) cx dC_X0_init_25 26 rfl rfl rfl rfl ?_
  refine z_icmp_ge cx dC_X0_init_26 29 rfl 48 (by decide) (fun h => absurd h (by decide)) (fun _ => ?_)
  refine z_aload_n cx dC_X0_init_29 30 rfl rfl 1 rfl ?_
  refine z_get (q0 := 0) (ci := 0) cx dC_X0_init_30 33 rfl rfl rfl zX0 1 (by decide) qk_245 rfl rfl ?_
  refine z_iload_n cx dC_X0_init_33 34 rfl rfl 0 rfl ?_
  refine z_new (ci := 5) (fs := [.null, .null, .null, .null, .int 0, .int 0, .int 0, .int 0, .int 0]) (W := fun n4 => ((h, .inr (0, [.ref a1, .ref p1, .int 0, .int 0])) :: ([(p1, .inl (g.2.1 3, 9, .inr (.inr (.inr (.inr (va_up (fun _ => none) 0 (some n2)))))))] ++ wI_X5_init g n2 q3 ++ [(n4, .inr (5, [.null, .null, .null, .null, .int 0, .int 0, .int 0, .int 0, .int 0]))]))) cx dC_X0_init_34 37 rfl qk_241 zX5 tyX5 tyX5_ok qk_59 qk_28 rfl (fun j hj => by rcases (show j = 0 ∨ j = 1 ∨ j = 2 ∨ j = 3 ∨ j = 4 ∨ j = 5 ∨ j = 6 ∨ j = 7 ∨ j = 8 by omega) with rfl | rfl | rfl | rfl | rfl | rfl | rfl | rfl | rfl <;> rfl) (Nat.le_of_ble_eq_true rfl) (Nat.le_of_ble_eq_true rfl) (fun _ => rfl) (fun n4 => ?_)
  refine z_dup cx dC_X0_init_37 38 rfl rfl ?_
  refine z_callIN (As := []) (rest := [.ref n4, .int (zI 1), .ref p1]) (wr := ((h, .inr (0, [.ref a1, .ref p1, .int 0, .int 0])) :: ([(p1, .inl (g.2.1 3, 9, .inr (.inr (.inr (.inr (va_up (fun _ => none) 0 (some n2)))))))] ++ wI_X5_init g n2 q3))) (wc := [(n4, .inr (5, [.null, .null, .null, .null, .int 0, .int 0, .int 0, .int 0, .int 0]))]) (W := fun q5 => wI_X5_init g n4 q5) (W' := fun q5 => ((h, .inr (0, [.ref a1, .ref p1, .int 0, .int 0])) :: ([(p1, .inl (g.2.1 3, 9, .inr (.inr (.inr (.inr (va_up (fun _ => none) 0 (some n2)))))))] ++ wI_X5_init g n2 q3 ++ wI_X5_init g n4 q5))) cx hE tC_X5_init dC_X0_init_38 41 rfl kC_X5_init hE.1.2.2.2.1 qk_61 rfl rfl ⟨Nat.le_of_ble_eq_true rfl, Nat.le_of_ble_eq_true rfl⟩ rfl rfl (Nat.le_of_ble_eq_true rfl) ⟨Nat.le_of_ble_eq_true rfl, Nat.le_of_ble_eq_true rfl⟩ (fun _ => rfl) (fun q5 => ?_)
  refine z_astq (i := 1) (n := 9) (w' := ((h, .inr (0, [.ref a1, .ref p1, .int 0, .int 0])) :: ([(p1, .inl (g.2.1 3, 9, .inr (.inr (.inr (.inr (va_up (va_up (fun _ => none) 0 (some n2)) 1 (some n4)))))))] ++ wI_X5_init g n2 q3 ++ wI_X5_init g n4 q5))) cx dC_X0_init_41 42 rfl 1 7 rfl rfl (by decide) (by decide) rfl ?_
  refine z_iinc (n := 1) (x := zI 1) (y := zI 2) (lv' := [(2, .int (zI 2)), (0, .ref h), (1, .ref a1)]) cx 0 dC_X0_init_42 45 rfl rfl (by decide) rfl (by decide) ?_
  refine z_goto cx dC_X0_init_45 20 (by decide) ?_
  refine z_iload_n cx dC_X0_init_20 21 rfl rfl 0 rfl ?_
  refine z_aload_n cx dC_X0_init_21 22 rfl rfl 1 rfl ?_
  refine z_get (q0 := 0) (ci := 0) cx dC_X0_init_22 25 rfl rfl rfl zX0 1 (by decide) qk_245 rfl rfl ?_
  refine z_alen (n := 9) (t0 := 3) (q0 := 1) (v := 9) cx dC_X0_init_25 26 rfl rfl rfl rfl ?_
  refine z_icmp_ge cx dC_X0_init_26 29 rfl 48 (by decide) (fun h => absurd h (by decide)) (fun _ => ?_)
  refine z_aload_n cx dC_X0_init_29 30 rfl rfl 1 rfl ?_
  refine z_get (q0 := 0) (ci := 0) cx dC_X0_init_30 33 rfl rfl rfl zX0 1 (by decide) qk_245 rfl rfl ?_
  refine z_iload_n cx dC_X0_init_33 34 rfl rfl 0 rfl ?_
  refine z_new (ci := 5) (fs := [.null, .null, .null, .null, .int 0, .int 0, .int 0, .int 0, .int 0]) (W := fun n6 => ((h, .inr (0, [.ref a1, .ref p1, .int 0, .int 0])) :: ([(p1, .inl (g.2.1 3, 9, .inr (.inr (.inr (.inr (va_up (va_up (fun _ => none) 0 (some n2)) 1 (some n4)))))))] ++ wI_X5_init g n2 q3 ++ wI_X5_init g n4 q5 ++ [(n6, .inr (5, [.null, .null, .null, .null, .int 0, .int 0, .int 0, .int 0, .int 0]))]))) cx dC_X0_init_34 37 rfl qk_241 zX5 tyX5 tyX5_ok qk_59 qk_28 rfl (fun j hj => by rcases (show j = 0 ∨ j = 1 ∨ j = 2 ∨ j = 3 ∨ j = 4 ∨ j = 5 ∨ j = 6 ∨ j = 7 ∨ j = 8 by omega) with rfl | rfl | rfl | rfl | rfl | rfl | rfl | rfl | rfl <;> rfl) (Nat.le_of_ble_eq_true rfl) (Nat.le_of_ble_eq_true rfl) (fun _ => rfl) (fun n6 => ?_)
  refine z_dup cx dC_X0_init_37 38 rfl rfl ?_
  refine z_callIN (As := []) (rest := [.ref n6, .int (zI 2), .ref p1]) (wr := ((h, .inr (0, [.ref a1, .ref p1, .int 0, .int 0])) :: ([(p1, .inl (g.2.1 3, 9, .inr (.inr (.inr (.inr (va_up (va_up (fun _ => none) 0 (some n2)) 1 (some n4)))))))] ++ wI_X5_init g n2 q3 ++ wI_X5_init g n4 q5))) (wc := [(n6, .inr (5, [.null, .null, .null, .null, .int 0, .int 0, .int 0, .int 0, .int 0]))]) (W := fun q7 => wI_X5_init g n6 q7) (W' := fun q7 => ((h, .inr (0, [.ref a1, .ref p1, .int 0, .int 0])) :: ([(p1, .inl (g.2.1 3, 9, .inr (.inr (.inr (.inr (va_up (va_up (fun _ => none) 0 (some n2)) 1 (some n4)))))))] ++ wI_X5_init g n2 q3 ++ wI_X5_init g n4 q5 ++ wI_X5_init g n6 q7))) cx hE tC_X5_init dC_X0_init_38 41 rfl kC_X5_init hE.1.2.2.2.1 qk_61 rfl rfl ⟨Nat.le_of_ble_eq_true rfl, Nat.le_of_ble_eq_true rfl⟩ rfl rfl (Nat.le_of_ble_eq_true rfl) ⟨Nat.le_of_ble_eq_true rfl, Nat.le_of_ble_eq_true rfl⟩ (fun _ => rfl) (fun q7 => ?_)
  refine z_astq (i := 2) (n := 9) (w' := ((h, .inr (0, [.ref a1, .ref p1, .int 0, .int 0])) :: ([(p1, .inl (g.2.1 3, 9, .inr (.inr (.inr (.inr (va_up (va_up (va_up (fun _ => none) 0 (some n2)) 1 (some n4)) 2 (some n6)))))))] ++ wI_X5_init g n2 q3 ++ wI_X5_init g n4 q5 ++ wI_X5_init g n6 q7))) cx dC_X0_init_41 42 rfl 1 12 rfl rfl (by decide) (by decide) rfl ?_
  refine z_iinc (n := 1) (x := zI 2) (y := zI 3) (lv' := [(2, .int (zI 3)), (0, .ref h), (1, .ref a1)]) cx 0 dC_X0_init_42 45 rfl rfl (by decide) rfl (by decide) ?_
  refine z_goto cx dC_X0_init_45 20 (by decide) ?_
  refine z_iload_n cx dC_X0_init_20 21 rfl rfl 0 rfl ?_
  refine z_aload_n cx dC_X0_init_21 22 rfl rfl 1 rfl ?_
  refine z_get (q0 := 0) (ci := 0) cx dC_X0_init_22 25 rfl rfl rfl zX0 1 (by decide) qk_245 rfl rfl ?_
  refine z_alen (n := 9) (t0 := 3) (q0 := 1) (v := 9) cx dC_X0_init_25 26 rfl rfl rfl rfl ?_
  refine z_icmp_ge cx dC_X0_init_26 29 rfl 48 (by decide) (fun h => absurd h (by decide)) (fun _ => ?_)
  refine z_aload_n cx dC_X0_init_29 30 rfl rfl 1 rfl ?_
  refine z_get (q0 := 0) (ci := 0) cx dC_X0_init_30 33 rfl rfl rfl zX0 1 (by decide) qk_245 rfl rfl ?_
  refine z_iload_n cx dC_X0_init_33 34 rfl rfl 0 rfl ?_
  refine z_new (ci := 5) (fs := [.null, .null, .null, .null, .int 0, .int 0, .int 0, .int 0, .int 0]) (W := fun n8 => ((h, .inr (0, [.ref a1, .ref p1, .int 0, .int 0])) :: ([(p1, .inl (g.2.1 3, 9, .inr (.inr (.inr (.inr (va_up (va_up (va_up (fun _ => none) 0 (some n2)) 1 (some n4)) 2 (some n6)))))))] ++ wI_X5_init g n2 q3 ++ wI_X5_init g n4 q5 ++ wI_X5_init g n6 q7 ++ [(n8, .inr (5, [.null, .null, .null, .null, .int 0, .int 0, .int 0, .int 0, .int 0]))]))) cx dC_X0_init_34 37 rfl qk_241 zX5 tyX5 tyX5_ok qk_59 qk_28 rfl (fun j hj => by rcases (show j = 0 ∨ j = 1 ∨ j = 2 ∨ j = 3 ∨ j = 4 ∨ j = 5 ∨ j = 6 ∨ j = 7 ∨ j = 8 by omega) with rfl | rfl | rfl | rfl | rfl | rfl | rfl | rfl | rfl <;> rfl) (Nat.le_of_ble_eq_true rfl) (Nat.le_of_ble_eq_true rfl) (fun _ => rfl) (fun n8 => ?_)
  refine z_dup cx dC_X0_init_37 38 rfl rfl ?_
  refine z_callIN (As := []) (rest := [.ref n8, .int (zI 3), .ref p1]) (wr := ((h, .inr (0, [.ref a1, .ref p1, .int 0, .int 0])) :: ([(p1, .inl (g.2.1 3, 9, .inr (.inr (.inr (.inr (va_up (va_up (va_up (fun _ => none) 0 (some n2)) 1 (some n4)) 2 (some n6)))))))] ++ wI_X5_init g n2 q3 ++ wI_X5_init g n4 q5 ++ wI_X5_init g n6 q7))) (wc := [(n8, .inr (5, [.null, .null, .null, .null, .int 0, .int 0, .int 0, .int 0, .int 0]))]) (W := fun q9 => wI_X5_init g n8 q9) (W' := fun q9 => ((h, .inr (0, [.ref a1, .ref p1, .int 0, .int 0])) :: ([(p1, .inl (g.2.1 3, 9, .inr (.inr (.inr (.inr (va_up (va_up (va_up (fun _ => none) 0 (some n2)) 1 (some n4)) 2 (some n6)))))))] ++ wI_X5_init g n2 q3 ++ wI_X5_init g n4 q5 ++ wI_X5_init g n6 q7 ++ wI_X5_init g n8 q9))) cx hE tC_X5_init dC_X0_init_38 41 rfl kC_X5_init hE.1.2.2.2.1 qk_61 rfl rfl ⟨Nat.le_of_ble_eq_true rfl, Nat.le_of_ble_eq_true rfl⟩ rfl rfl (Nat.le_of_ble_eq_true rfl) ⟨Nat.le_of_ble_eq_true rfl, Nat.le_of_ble_eq_true rfl⟩ (fun _ => rfl) (fun q9 => ?_)
  refine z_astq (i := 3) (n := 9) (w' := ((h, .inr (0, [.ref a1, .ref p1, .int 0, .int 0])) :: ([(p1, .inl (g.2.1 3, 9, .inr (.inr (.inr (.inr (va_up (va_up (va_up (va_up (fun _ => none) 0 (some n2)) 1 (some n4)) 2 (some n6)) 3 (some n8)))))))] ++ wI_X5_init g n2 q3 ++ wI_X5_init g n4 q5 ++ wI_X5_init g n6 q7 ++ wI_X5_init g n8 q9))) cx dC_X0_init_41 42 rfl 1 17 rfl rfl (by decide) (by decide) rfl ?_
  refine z_iinc (n := 1) (x := zI 3) (y := zI 4) (lv' := [(2, .int (zI 4)), (0, .ref h), (1, .ref a1)]) cx 0 dC_X0_init_42 45 rfl rfl (by decide) rfl (by decide) ?_
  refine z_goto cx dC_X0_init_45 20 (by decide) ?_
  refine z_iload_n cx dC_X0_init_20 21 rfl rfl 0 rfl ?_
  refine z_aload_n cx dC_X0_init_21 22 rfl rfl 1 rfl ?_
  refine z_get (q0 := 0) (ci := 0) cx dC_X0_init_22 25 rfl rfl rfl zX0 1 (by decide) qk_245 rfl rfl ?_
  refine z_alen (n := 9) (t0 := 3) (q0 := 1) (v := 9) cx dC_X0_init_25 26 rfl rfl rfl rfl ?_
  refine z_icmp_ge cx dC_X0_init_26 29 rfl 48 (by decide) (fun h => absurd h (by decide)) (fun _ => ?_)
  refine z_aload_n cx dC_X0_init_29 30 rfl rfl 1 rfl ?_
  refine z_get (q0 := 0) (ci := 0) cx dC_X0_init_30 33 rfl rfl rfl zX0 1 (by decide) qk_245 rfl rfl ?_
  refine z_iload_n cx dC_X0_init_33 34 rfl rfl 0 rfl ?_
  refine z_new (ci := 5) (fs := [.null, .null, .null, .null, .int 0, .int 0, .int 0, .int 0, .int 0]) (W := fun n10 => ((h, .inr (0, [.ref a1, .ref p1, .int 0, .int 0])) :: ([(p1, .inl (g.2.1 3, 9, .inr (.inr (.inr (.inr (va_up (va_up (va_up (va_up (fun _ => none) 0 (some n2)) 1 (some n4)) 2 (some n6)) 3 (some n8)))))))] ++ wI_X5_init g n2 q3 ++ wI_X5_init g n4 q5 ++ wI_X5_init g n6 q7 ++ wI_X5_init g n8 q9 ++ [(n10, .inr (5, [.null, .null, .null, .null, .int 0, .int 0, .int 0, .int 0, .int 0]))]))) cx dC_X0_init_34 37 rfl qk_241 zX5 tyX5 tyX5_ok qk_59 qk_28 rfl (fun j hj => by rcases (show j = 0 ∨ j = 1 ∨ j = 2 ∨ j = 3 ∨ j = 4 ∨ j = 5 ∨ j = 6 ∨ j = 7 ∨ j = 8 by omega) with rfl | rfl | rfl | rfl | rfl | rfl | rfl | rfl | rfl <;> rfl) (Nat.le_of_ble_eq_true rfl) (Nat.le_of_ble_eq_true rfl) (fun _ => rfl) (fun n10 => ?_)
  refine z_dup cx dC_X0_init_37 38 rfl rfl ?_
  refine z_callIN (As := []) (rest := [.ref n10, .int (zI 4), .ref p1]) (wr := ((h, .inr (0, [.ref a1, .ref p1, .int 0, .int 0])) :: ([(p1, .inl (g.2.1 3, 9, .inr (.inr (.inr (.inr (va_up (va_up (va_up (va_up (fun _ => none) 0 (some n2)) 1 (some n4)) 2 (some n6)) 3 (some n8)))))))] ++ wI_X5_init g n2 q3 ++ wI_X5_init g n4 q5 ++ wI_X5_init g n6 q7 ++ wI_X5_init g n8 q9))) (wc := [(n10, .inr (5, [.null, .null, .null, .null, .int 0, .int 0, .int 0, .int 0, .int 0]))]) (W := fun q11 => wI_X5_init g n10 q11) (W' := fun q11 => ((h, .inr (0, [.ref a1, .ref p1, .int 0, .int 0])) :: ([(p1, .inl (g.2.1 3, 9, .inr (.inr (.inr (.inr (va_up (va_up (va_up (va_up (fun _ => none) 0 (some n2)) 1 (some n4)) 2 (some n6)) 3 (some n8)))))))] ++ wI_X5_init g n2 q3 ++ wI_X5_init g n4 q5 ++ wI_X5_init g n6 q7 ++ wI_X5_init g n8 q9 ++ wI_X5_init g n10 q11))) cx hE tC_X5_init dC_X0_init_38 41 rfl kC_X5_init hE.1.2.2.2.1 qk_61 rfl rfl ⟨Nat.le_of_ble_eq_true rfl, Nat.le_of_ble_eq_true rfl⟩ rfl rfl (Nat.le_of_ble_eq_true rfl) ⟨Nat.le_of_ble_eq_true rfl, Nat.le_of_ble_eq_true rfl⟩ (fun _ => rfl) (fun q11 => ?_)
  refine z_astq (i := 4) (n := 9) (w' := ((h, .inr (0, [.ref a1, .ref p1, .int 0, .int 0])) :: ([(p1, .inl (g.2.1 3, 9, .inr (.inr (.inr (.inr (va_up (va_up (va_up (va_up (va_up (fun _ => none) 0 (some n2)) 1 (some n4)) 2 (some n6)) 3 (some n8)) 4 (some n10)))))))] ++ wI_X5_init g n2 q3 ++ wI_X5_init g n4 q5 ++ wI_X5_init g n6 q7 ++ wI_X5_init g n8 q9 ++ wI_X5_init g n10 q11))) cx dC_X0_init_41 42 rfl 1 22 rfl rfl (by decide) (by decide) rfl ?_
  refine z_iinc (n := 1) (x := zI 4) (y := zI 5) (lv' := [(2, .int (zI 5)), (0, .ref h), (1, .ref a1)]) cx 0 dC_X0_init_42 45 rfl rfl (by decide) rfl (by decide) ?_
  refine z_goto cx dC_X0_init_45 20 (by decide) ?_
  refine z_iload_n cx dC_X0_init_20 21 rfl rfl 0 rfl ?_
  refine z_aload_n cx dC_X0_init_21 22 rfl rfl 1 rfl ?_
  refine z_get (q0 := 0) (ci := 0) cx dC_X0_init_22 25 rfl rfl rfl zX0 1 (by decide) qk_245 rfl rfl ?_
  refine z_alen (n := 9) (t0 := 3) (q0 := 1) (v := 9) cx dC_X0_init_25 26 rfl rfl rfl rfl ?_
  refine z_icmp_ge cx dC_X0_init_26 29 rfl 48 (by decide) (fun h => absurd h (by decide)) (fun _ => ?_)
  refine z_aload_n cx dC_X0_init_29 30 rfl rfl 1 rfl ?_
  refine z_get (q0 := 0) (ci := 0) cx dC_X0_init_30 33 rfl rfl rfl zX0 1 (by decide) qk_245 rfl rfl ?_
  refine z_iload_n cx dC_X0_init_33 34 rfl rfl 0 rfl ?_
  refine z_new (ci := 5) (fs := [.null, .null, .null, .null, .int 0, .int 0, .int 0, .int 0, .int 0]) (W := fun n12 => ((h, .inr (0, [.ref a1, .ref p1, .int 0, .int 0])) :: ([(p1, .inl (g.2.1 3, 9, .inr (.inr (.inr (.inr (va_up (va_up (va_up (va_up (va_up (fun _ => none) 0 (some n2)) 1 (some n4)) 2 (some n6)) 3 (some n8)) 4 (some n10)))))))] ++ wI_X5_init g n2 q3 ++ wI_X5_init g n4 q5 ++ wI_X5_init g n6 q7 ++ wI_X5_init g n8 q9 ++ wI_X5_init g n10 q11 ++ [(n12, .inr (5, [.null, .null, .null, .null, .int 0, .int 0, .int 0, .int 0, .int 0]))]))) cx dC_X0_init_34 37 rfl qk_241 zX5 tyX5 tyX5_ok qk_59 qk_28 rfl (fun j hj => by rcases (show j = 0 ∨ j = 1 ∨ j = 2 ∨ j = 3 ∨ j = 4 ∨ j = 5 ∨ j = 6 ∨ j = 7 ∨ j = 8 by omega) with rfl | rfl | rfl | rfl | rfl | rfl | rfl | rfl | rfl <;> rfl) (Nat.le_of_ble_eq_true rfl) (Nat.le_of_ble_eq_true rfl) (fun _ => rfl) (fun n12 => ?_)
  refine z_dup cx dC_X0_init_37 38 rfl rfl ?_
  refine z_callIN (As := []) (rest := [.ref n12, .int (zI 5), .ref p1]) (wr := ((h, .inr (0, [.ref a1, .ref p1, .int 0, .int 0])) :: ([(p1, .inl (g.2.1 3, 9, .inr (.inr (.inr (.inr (va_up (va_up (va_up (va_up (va_up (fun _ => none) 0 (some n2)) 1 (some n4)) 2 (some n6)) 3 (some n8)) 4 (some n10)))))))] ++ wI_X5_init g n2 q3 ++ wI_X5_init g n4 q5 ++ wI_X5_init g n6 q7 ++ wI_X5_init g n8 q9 ++ wI_X5_init g n10 q11))) (wc := [(n12, .inr (5, [.null, .null, .null, .null, .int 0, .int 0, .int 0, .int 0, .int 0]))]) (W := fun q13 => wI_X5_init g n12 q13) (W' := fun q13 => ((h, .inr (0, [.ref a1, .ref p1, .int 0, .int 0])) :: ([(p1, .inl (g.2.1 3, 9, .inr (.inr (.inr (.inr (va_up (va_up (va_up (va_up (va_up (fun _ => none) 0 (some n2)) 1 (some n4)) 2 (some n6)) 3 (some n8)) 4 (some n10)))))))] ++ wI_X5_init g n2 q3 ++ wI_X5_init g n4 q5 ++ wI_X5_init g n6 q7 ++ wI_X5_init g n8 q9 ++ wI_X5_init g n10 q11 ++ wI_X5_init g n12 q13))) cx hE tC_X5_init dC_X0_init_38 41 rfl kC_X5_init hE.1.2.2.2.1 qk_61 rfl rfl ⟨Nat.le_of_ble_eq_true rfl, Nat.le_of_ble_eq_true rfl⟩ rfl rfl (Nat.le_of_ble_eq_true rfl) ⟨Nat.le_of_ble_eq_true rfl, Nat.le_of_ble_eq_true rfl⟩ (fun _ => rfl) (fun q13 => ?_)
  refine z_astq (i := 5) (n := 9) (w' := ((h, .inr (0, [.ref a1, .ref p1, .int 0, .int 0])) :: ([(p1, .inl (g.2.1 3, 9, .inr (.inr (.inr (.inr (va_up (va_up (va_up (va_up (va_up (va_up (fun _ => none) 0 (some n2)) 1 (some n4)) 2 (some n6)) 3 (some n8)) 4 (some n10)) 5 (some n12)))))))] ++ wI_X5_init g n2 q3 ++ wI_X5_init g n4 q5 ++ wI_X5_init g n6 q7 ++ wI_X5_init g n8 q9 ++ wI_X5_init g n10 q11 ++ wI_X5_init g n12 q13))) cx dC_X0_init_41 42 rfl 1 27 rfl rfl (by decide) (by decide) rfl ?_
  refine z_iinc (n := 1) (x := zI 5) (y := zI 6) (lv' := [(2, .int (zI 6)), (0, .ref h), (1, .ref a1)]) cx 0 dC_X0_init_42 45 rfl rfl (by decide) rfl (by decide) ?_
  refine z_goto cx dC_X0_init_45 20 (by decide) ?_
  refine z_iload_n cx dC_X0_init_20 21 rfl rfl 0 rfl ?_
  refine z_aload_n cx dC_X0_init_21 22 rfl rfl 1 rfl ?_
  refine z_get (q0 := 0) (ci := 0) cx dC_X0_init_22 25 rfl rfl rfl zX0 1 (by decide) qk_245 rfl rfl ?_
  refine z_alen (n := 9) (t0 := 3) (q0 := 1) (v := 9) cx dC_X0_init_25 26 rfl rfl rfl rfl ?_
  refine z_icmp_ge cx dC_X0_init_26 29 rfl 48 (by decide) (fun h => absurd h (by decide)) (fun _ => ?_)
  refine z_aload_n cx dC_X0_init_29 30 rfl rfl 1 rfl ?_
  refine z_get (q0 := 0) (ci := 0) cx dC_X0_init_30 33 rfl rfl rfl zX0 1 (by decide) qk_245 rfl rfl ?_
  refine z_iload_n cx dC_X0_init_33 34 rfl rfl 0 rfl ?_
  refine z_new (ci := 5) (fs := [.null, .null, .null, .null, .int 0, .int 0, .int 0, .int 0, .int 0]) (W := fun n14 => ((h, .inr (0, [.ref a1, .ref p1, .int 0, .int 0])) :: ([(p1, .inl (g.2.1 3, 9, .inr (.inr (.inr (.inr (va_up (va_up (va_up (va_up (va_up (va_up (fun _ => none) 0 (some n2)) 1 (some n4)) 2 (some n6)) 3 (some n8)) 4 (some n10)) 5 (some n12)))))))] ++ wI_X5_init g n2 q3 ++ wI_X5_init g n4 q5 ++ wI_X5_init g n6 q7 ++ wI_X5_init g n8 q9 ++ wI_X5_init g n10 q11 ++ wI_X5_init g n12 q13 ++ [(n14, .inr (5, [.null, .null, .null, .null, .int 0, .int 0, .int 0, .int 0, .int 0]))]))) cx dC_X0_init_34 37 rfl qk_241 zX5 tyX5 tyX5_ok qk_59 qk_28 rfl (fun j hj => by rcases (show j = 0 ∨ j = 1 ∨ j = 2 ∨ j = 3 ∨ j = 4 ∨ j = 5 ∨ j = 6 ∨ j = 7 ∨ j = 8 by omega) with rfl | rfl | rfl | rfl | rfl | rfl | rfl | rfl | rfl <;> rfl) (Nat.le_of_ble_eq_true rfl) (Nat.le_of_ble_eq_true rfl) (fun _ => rfl) (fun n14 => ?_)
  refine z_dup cx dC_X0_init_37 38 rfl rfl ?_
  refine z_callIN (As := []) (rest := [.ref n14, .int (zI 6), .ref p1]) (wr := ((h, .inr (0, [.ref a1, .ref p1, .int 0, .int 0])) :: ([(p1, .inl (g.2.1 3, 9, .inr (.inr (.inr (.inr (va_up (va_up (va_up (va_up (va_up (va_up (fun _ => none) 0 (some n2)) 1 (some n4)) 2 (some n6)) 3 (some n8)) 4 (some n10)) 5 (some n12)))))))] ++ wI_X5_init g n2 q3 ++ wI_X5_init g n4 q5 ++ wI_X5_init g n6 q7 ++ wI_X5_init g n8 q9 ++ wI_X5_init g n10 q11 ++ wI_X5_init g n12 q13))) (wc := [(n14, .inr (5, [.null, .null, .null, .null, .int 0, .int 0, .int 0, .int 0, .int 0]))]) (W := fun q15 => wI_X5_init g n14 q15) (W' := fun q15 => ((h, .inr (0, [.ref a1, .ref p1, .int 0, .int 0])) :: ([(p1, .inl (g.2.1 3, 9, .inr (.inr (.inr (.inr (va_up (va_up (va_up (va_up (va_up (va_up (fun _ => none) 0 (some n2)) 1 (some n4)) 2 (some n6)) 3 (some n8)) 4 (some n10)) 5 (some n12)))))))] ++ wI_X5_init g n2 q3 ++ wI_X5_init g n4 q5 ++ wI_X5_init g n6 q7 ++ wI_X5_init g n8 q9 ++ wI_X5_init g n10 q11 ++ wI_X5_init g n12 q13 ++ wI_X5_init g n14 q15))) cx hE tC_X5_init dC_X0_init_38 41 rfl kC_X5_init hE.1.2.2.2.1 qk_61 rfl rfl ⟨Nat.le_of_ble_eq_true rfl, Nat.le_of_ble_eq_true rfl⟩ rfl rfl (Nat.le_of_ble_eq_true rfl) ⟨Nat.le_of_ble_eq_true rfl, Nat.le_of_ble_eq_true rfl⟩ (fun _ => rfl) (fun q15 => ?_)
  refine z_astq (i := 6) (n := 9) (w' := ((h, .inr (0, [.ref a1, .ref p1, .int 0, .int 0])) :: ([(p1, .inl (g.2.1 3, 9, .inr (.inr (.inr (.inr (va_up (va_up (va_up (va_up (va_up (va_up (va_up (fun _ => none) 0 (some n2)) 1 (some n4)) 2 (some n6)) 3 (some n8)) 4 (some n10)) 5 (some n12)) 6 (some n14)))))))] ++ wI_X5_init g n2 q3 ++ wI_X5_init g n4 q5 ++ wI_X5_init g n6 q7 ++ wI_X5_init g n8 q9 ++ wI_X5_init g n10 q11 ++ wI_X5_init g n12 q13 ++ wI_X5_init g n14 q15))) cx dC_X0_init_41 42 rfl 1 32 rfl rfl (by decide) (by decide) rfl ?_
  refine z_iinc (n := 1) (x := zI 6) (y := zI 7) (lv' := [(2, .int (zI 7)), (0, .ref h), (1, .ref a1)]) cx 0 dC_X0_init_42 45 rfl rfl (by decide) rfl (by decide) ?_
  refine z_goto cx dC_X0_init_45 20 (by decide) ?_
  refine z_iload_n cx dC_X0_init_20 21 rfl rfl 0 rfl ?_
  refine z_aload_n cx dC_X0_init_21 22 rfl rfl 1 rfl ?_
  refine z_get (q0 := 0) (ci := 0) cx dC_X0_init_22 25 rfl rfl rfl zX0 1 (by decide) qk_245 rfl rfl ?_
  refine z_alen (n := 9) (t0 := 3) (q0 := 1) (v := 9) cx dC_X0_init_25 26 rfl rfl rfl rfl ?_
  refine z_icmp_ge cx dC_X0_init_26 29 rfl 48 (by decide) (fun h => absurd h (by decide)) (fun _ => ?_)
  refine z_aload_n cx dC_X0_init_29 30 rfl rfl 1 rfl ?_
  refine z_get (q0 := 0) (ci := 0) cx dC_X0_init_30 33 rfl rfl rfl zX0 1 (by decide) qk_245 rfl rfl ?_
  refine z_iload_n cx dC_X0_init_33 34 rfl rfl 0 rfl ?_
  refine z_new (ci := 5) (fs := [.null, .null, .null, .null, .int 0, .int 0, .int 0, .int 0, .int 0]) (W := fun n16 => ((h, .inr (0, [.ref a1, .ref p1, .int 0, .int 0])) :: ([(p1, .inl (g.2.1 3, 9, .inr (.inr (.inr (.inr (va_up (va_up (va_up (va_up (va_up (va_up (va_up (fun _ => none) 0 (some n2)) 1 (some n4)) 2 (some n6)) 3 (some n8)) 4 (some n10)) 5 (some n12)) 6 (some n14)))))))] ++ wI_X5_init g n2 q3 ++ wI_X5_init g n4 q5 ++ wI_X5_init g n6 q7 ++ wI_X5_init g n8 q9 ++ wI_X5_init g n10 q11 ++ wI_X5_init g n12 q13 ++ wI_X5_init g n14 q15 ++ [(n16, .inr (5, [.null, .null, .null, .null, .int 0, .int 0, .int 0, .int 0, .int 0]))]))) cx dC_X0_init_34 37 rfl qk_241 zX5 tyX5 tyX5_ok qk_59 qk_28 rfl (fun j hj => by rcases (show j = 0 ∨ j = 1 ∨ j = 2 ∨ j = 3 ∨ j = 4 ∨ j = 5 ∨ j = 6 ∨ j = 7 ∨ j = 8 by omega) with rfl | rfl | rfl | rfl | rfl | rfl | rfl | rfl | rfl <;> rfl) (Nat.le_of_ble_eq_true rfl) (Nat.le_of_ble_eq_true rfl) (fun _ => rfl) (fun n16 => ?_)
  refine z_dup cx dC_X0_init_37 38 rfl rfl ?_
  refine z_callIN (As := []) (rest := [.ref n16, .int (zI 7), .ref p1]) (wr := ((h, .inr (0, [.ref a1, .ref p1, .int 0, .int 0])) :: ([(p1, .inl (g.2.1 3, 9, .inr (.inr (.inr (.inr (va_up (va_up (va_up (va_up (va_up (va_up (va_up (fun _ => none) 0 (some n2)) 1 (some n4)) 2 (some n6)) 3 (some n8)) 4 (some n10)) 5 (some n12)) 6 (some n14)))))))] ++ wI_X5_init g n2 q3 ++ wI_X5_init g n4 q5 ++ wI_X5_init g n6 q7 ++ wI_X5_init g n8 q9 ++ wI_X5_init g n10 q11 ++ wI_X5_init g n12 q13 ++ wI_X5_init g n14 q15))) (wc := [(n16, .inr (5, [.null, .null, .null, .null, .int 0, .int 0, .int 0, .int 0, .int 0]))]) (W := fun q17 => wI_X5_init g n16 q17) (W' := fun q17 => ((h, .inr (0, [.ref a1, .ref p1, .int 0, .int 0])) :: ([(p1, .inl (g.2.1 3, 9, .inr (.inr (.inr (.inr (va_up (va_up (va_up (va_up (va_up (va_up (va_up (fun _ => none) 0 (some n2)) 1 (some n4)) 2 (some n6)) 3 (some n8)) 4 (some n10)) 5 (some n12)) 6 (some n14)))))))] ++ wI_X5_init g n2 q3 ++ wI_X5_init g n4 q5 ++ wI_X5_init g n6 q7 ++ wI_X5_init g n8 q9 ++ wI_X5_init g n10 q11 ++ wI_X5_init g n12 q13 ++ wI_X5_init g n14 q15 ++ wI_X5_init g n16 q17))) cx hE tC_X5_init dC_X0_init_38 41 rfl kC_X5_init hE.1.2.2.2.1 qk_61 rfl rfl ⟨Nat.le_of_ble_eq_true rfl, Nat.le_of_ble_eq_true rfl⟩ rfl rfl (Nat.le_of_ble_eq_true rfl) ⟨Nat.le_of_ble_eq_true rfl, Nat.le_of_ble_eq_true rfl⟩ (fun _ => rfl) (fun q17 => ?_)
  refine z_astq (i := 7) (n := 9) (w' := ((h, .inr (0, [.ref a1, .ref p1, .int 0, .int 0])) :: ([(p1, .inl (g.2.1 3, 9, .inr (.inr (.inr (.inr (va_up (va_up (va_up (va_up (va_up (va_up (va_up (va_up (fun _ => none) 0 (some n2)) 1 (some n4)) 2 (some n6)) 3 (some n8)) 4 (some n10)) 5 (some n12)) 6 (some n14)) 7 (some n16)))))))] ++ wI_X5_init g n2 q3 ++ wI_X5_init g n4 q5 ++ wI_X5_init g n6 q7 ++ wI_X5_init g n8 q9 ++ wI_X5_init g n10 q11 ++ wI_X5_init g n12 q13 ++ wI_X5_init g n14 q15 ++ wI_X5_init g n16 q17))) cx dC_X0_init_41 42 rfl 1 37 rfl rfl (by decide) (by decide) rfl ?_
  refine z_iinc (n := 1) (x := zI 7) (y := zI 8) (lv' := [(2, .int (zI 8)), (0, .ref h), (1, .ref a1)]) cx 0 dC_X0_init_42 45 rfl rfl (by decide) rfl (by decide) ?_
  refine z_goto cx dC_X0_init_45 20 (by decide) ?_
  refine z_iload_n cx dC_X0_init_20 21 rfl rfl 0 rfl ?_
  refine z_aload_n cx dC_X0_init_21 22 rfl rfl 1 rfl ?_
  refine z_get (q0 := 0) (ci := 0) cx dC_X0_init_22 25 rfl rfl rfl zX0 1 (by decide) qk_245 rfl rfl ?_
  refine z_alen (n := 9) (t0 := 3) (q0 := 1) (v := 9) cx dC_X0_init_25 26 rfl rfl rfl rfl ?_
  refine z_icmp_ge cx dC_X0_init_26 29 rfl 48 (by decide) (fun h => absurd h (by decide)) (fun _ => ?_)
  refine z_aload_n cx dC_X0_init_29 30 rfl rfl 1 rfl ?_
  refine z_get (q0 := 0) (ci := 0) cx dC_X0_init_30 33 rfl rfl rfl zX0 1 (by decide) qk_245 rfl rfl ?_
  refine z_iload_n cx dC_X0_init_33 34 rfl rfl 0 rfl ?_
  refine z_new (ci := 5) (fs := [.null, .null, .null, .null, .int 0, .int 0, .int 0, .int 0, .int 0]) (W := fun n18 => ((h, .inr (0, [.ref a1, .ref p1, .int 0, .int 0])) :: ([(p1, .inl (g.2.1 3, 9, .inr (.inr (.inr (.inr (va_up (va_up (va_up (va_up (va_up (va_up (va_up (va_up (fun _ => none) 0 (some n2)) 1 (some n4)) 2 (some n6)) 3 (some n8)) 4 (some n10)) 5 (some n12)) 6 (some n14)) 7 (some n16)))))))] ++ wI_X5_init g n2 q3 ++ wI_X5_init g n4 q5 ++ wI_X5_init g n6 q7 ++ wI_X5_init g n8 q9 ++ wI_X5_init g n10 q11 ++ wI_X5_init g n12 q13 ++ wI_X5_init g n14 q15 ++ wI_X5_init g n16 q17 ++ [(n18, .inr (5, [.null, .null, .null, .null, .int 0, .int 0, .int 0, .int 0, .int 0]))]))) cx dC_X0_init_34 37 rfl qk_241 zX5 tyX5 tyX5_ok qk_59 qk_28 rfl (fun j hj => by rcases (show j = 0 ∨ j = 1 ∨ j = 2 ∨ j = 3 ∨ j = 4 ∨ j = 5 ∨ j = 6 ∨ j = 7 ∨ j = 8 by omega) with rfl | rfl | rfl | rfl | rfl | rfl | rfl | rfl | rfl <;> rfl) (Nat.le_of_ble_eq_true rfl) (Nat.le_of_ble_eq_true rfl) (fun _ => rfl) (fun n18 => ?_)
  refine z_dup cx dC_X0_init_37 38 rfl rfl ?_
  refine z_callIN (As := []) (rest := [.ref n18, .int (zI 8), .ref p1]) (wr := ((h, .inr (0, [.ref a1, .ref p1, .int 0, .int 0])) :: ([(p1, .inl (g.2.1 3, 9, .inr (.inr (.inr (.inr (va_up (va_up (va_up (va_up (va_up (va_up (va_up (va_up (fun _ => none) 0 (some n2)) 1 (some n4)) 2 (some n6)) 3 (some n8)) 4 (some n10)) 5 (some n12)) 6 (some n14)) 7 (some n16)))))))] ++ wI_X5_init g n2 q3 ++ wI_X5_init g n4 q5 ++ wI_X5_init g n6 q7 ++ wI_X5_init g n8 q9 ++ wI_X5_init g n10 q11 ++ wI_X5_init g n12 q13 ++ wI_X5_init g n14 q15 ++ wI_X5_init g n16 q17))) (wc := [(n18, .inr (5, [.null, .null, .null, .null, .int 0, .int 0, .int 0, .int 0, .int 0]))]) (W := fun q19 => wI_X5_init g n18 q19) (W' := fun q19 => ((h, .inr (0, [.ref a1, .ref p1, .int 0, .int 0])) :: ([(p1, .inl (g.2.1 3, 9, .inr (.inr (.inr (.inr (va_up (va_up (va_up (va_up (va_up (va_up (va_up (va_up (fun _ => none) 0 (some n2)) 1 (some n4)) 2 (some n6)) 3 (some n8)) 4 (some n10)) 5 (some n12)) 6 (some n14)) 7 (some n16)))))))] ++ wI_X5_init g n2 q3 ++ wI_X5_init g n4 q5 ++ wI_X5_init g n6 q7 ++ wI_X5_init g n8 q9 ++ wI_X5_init g n10 q11 ++ wI_X5_init g n12 q13 ++ wI_X5_init g n14 q15 ++ wI_X5_init g n16 q17 ++ wI_X5_init g n18 q19))) cx hE tC_X5_init dC_X0_init_38 41 rfl kC_X5_init hE.1.2.2.2.1 qk_61 rfl rfl ⟨Nat.le_of_ble_eq_true rfl, Nat.le_of_ble_eq_true rfl⟩ rfl rfl (Nat.le_of_ble_eq_true rfl) ⟨Nat.le_of_ble_eq_true rfl, Nat.le_of_ble_eq_true rfl⟩ (fun _ => rfl) (fun q19 => ?_)
  refine z_astq (i := 8) (n := 9) (w' := ((h, .inr (0, [.ref a1, .ref p1, .int 0, .int 0])) :: ([(p1, .inl (g.2.1 3, 9, .inr (.inr (.inr (.inr (va_up (va_up (va_up (va_up (va_up (va_up (va_up (va_up (va_up (fun _ => none) 0 (some n2)) 1 (some n4)) 2 (some n6)) 3 (some n8)) 4 (some n10)) 5 (some n12)) 6 (some n14)) 7 (some n16)) 8 (some n18)))))))] ++ wI_X5_init g n2 q3 ++ wI_X5_init g n4 q5 ++ wI_X5_init g n6 q7 ++ wI_X5_init g n8 q9 ++ wI_X5_init g n10 q11 ++ wI_X5_init g n12 q13 ++ wI_X5_init g n14 q15 ++ wI_X5_init g n16 q17 ++ wI_X5_init g n18 q19))) cx dC_X0_init_41 42 rfl 1 42 rfl rfl (by decide) (by decide) rfl ?_
  refine z_iinc (n := 1) (x := zI 8) (y := zI 9) (lv' := [(2, .int (zI 9)), (0, .ref h), (1, .ref a1)]) cx 0 dC_X0_init_42 45 rfl rfl (by decide) rfl (by decide) ?_
  refine z_goto cx dC_X0_init_45 20 (by decide) ?_
  refine z_iload_n cx dC_X0_init_20 21 rfl rfl 0 rfl ?_
  refine z_aload_n cx dC_X0_init_21 22 rfl rfl 1 rfl ?_
  refine z_get (q0 := 0) (ci := 0) cx dC_X0_init_22 25 rfl rfl rfl zX0 1 (by decide) qk_245 rfl rfl ?_
  refine z_alen (n := 9) (t0 := 3) (q0 := 1) (v := 9) cx dC_X0_init_25 26 rfl rfl rfl rfl ?_
  refine z_icmp_ge cx dC_X0_init_26 29 rfl 48 (by decide) (fun _ => ?_) (fun h => absurd (by decide) h)
  refine z_widen (k := 46) (n := 954) (Nat.le_of_ble_eq_true rfl) (Nat.le_of_ble_eq_true rfl) ?_
  subst hQ
  exact z_vretA (W9 := wI_X0_init g h a1) cx dC_X0_init_48 (fun i => [p1, n2, q3 0, q3 1, q3 2, q3 3, n4, q5 0, q5 1, q5 2, q5 3, n6, q7 0, q7 1, q7 2, q7 3, n8, q9 0, q9 1, q9 2, q9 3, n10, q11 0, q11 1, q11 2, q11 3, n12, q13 0, q13 1, q13 2, q13 3, n14, q15 0, q15 1, q15 2, q15 3, n16, q17 0, q17 1, q17 2, q17 3, n18, q19 0, q19 1, q19 2, q19 3].getD i 0) rfl
set_option maxHeartbeats 4000000 in
theorem tC_X1_init {l : Launch} {ks : ZS} {g : ZG} {h a1 : Nat} : zMa l ks yX1_init cX1_init 2 zC_X1_init g [.ref h, .ref a1] [(h, .inr (1, [.null, .null, .null, .null, .null, .null, .int 0, .int 0, .null, .null, .int 0, .int 0]))] (wI_X1_init g h a1) := by
  refine zMa_of (own := RX1) rfl (by decide +kernel) (Nat.le_of_ble_eq_true rfl) (lv := [(0, .ref h), (1, .ref a1)]) rfl rfl ?_
  intro p e s m args below meth c A Q hQ cx hE hin
  refine z_aload_n cx dC_X1_init_0 1 rfl rfl 0 rfl ?_
  refine z_obj cx dC_X1_init_1 4 rfl qk_262 qk_56 qk_57 (Nat.le_of_ble_eq_true rfl) (Nat.le_of_ble_eq_true rfl) ?_
  refine z_aload_n cx dC_X1_init_4 5 rfl rfl 0 rfl ?_
  refine y_bipush cx dC_X1_init_5 7 rfl (by decide) ?_
  refine z_newa (ty := .int) (n := 10) (a0 := (10, .inl (wi (fun _ => 0)))) (W := fun p1 => ((h, .inr (1, [.null, .null, .null, .null, .null, .null, .int 0, .int 0, .null, .null, .int 0, .int 0])) :: ([(p1, .inl (g.2.1 0, 10, .inl (wi (fun _ => 0))))]))) cx 0 dC_X1_init_7 9 rfl qk_113 rfl rfl (fun _ _ h => h) (fun _ => rfl) (by decide) (by decide) (Nat.le_of_ble_eq_true rfl) (Nat.le_of_ble_eq_true rfl) (fun _ => rfl) (fun p1 => ?_)
  refine z_putF (q0 := 0) (ci := 1) (w' := ((h, .inr (1, [.null, .ref p1, .null, .null, .null, .null, .int 0, .int 0, .null, .null, .int 0, .int 0])) :: ([(p1, .inl (g.2.1 0, 10, .inl (wi (fun _ => 0))))]))) cx hin dC_X1_init_9 12 rfl rfl rfl zX1 tyX1_ok nmX1 1 (by decide) qk_264 rfl rfl rfl rfl rfl (Nat.le_of_ble_eq_true rfl) rfl ?_
  refine z_aload_n cx dC_X1_init_12 13 rfl rfl 0 rfl ?_
  refine y_bipush cx dC_X1_init_13 15 rfl (by decide) ?_
  refine z_newa (ty := .int) (n := 24) (a0 := (24, .inl (wi (fun _ => 0)))) (W := fun p2 => ((h, .inr (1, [.null, .ref p1, .null, .null, .null, .null, .int 0, .int 0, .null, .null, .int 0, .int 0])) :: ([(p1, .inl (g.2.1 0, 10, .inl (wi (fun _ => 0))))] ++ [(p2, .inl (g.2.1 0, 24, .inl (wi (fun _ => 0))))]))) cx 0 dC_X1_init_15 17 rfl qk_113 rfl rfl (fun _ _ h => h) (fun _ => rfl) (by decide) (by decide) (Nat.le_of_ble_eq_true rfl) (Nat.le_of_ble_eq_true rfl) (fun _ => rfl) (fun p2 => ?_)
  refine z_putF (q0 := 0) (ci := 1) (w' := ((h, .inr (1, [.null, .ref p1, .ref p2, .null, .null, .null, .int 0, .int 0, .null, .null, .int 0, .int 0])) :: ([(p1, .inl (g.2.1 0, 10, .inl (wi (fun _ => 0))))] ++ [(p2, .inl (g.2.1 0, 24, .inl (wi (fun _ => 0))))]))) cx hin dC_X1_init_17 20 rfl rfl rfl zX1 tyX1_ok nmX1 2 (by decide) qk_265 rfl rfl rfl rfl rfl (Nat.le_of_ble_eq_true rfl) rfl ?_
  refine z_aload_n cx dC_X1_init_20 21 rfl rfl 0 rfl ?_
  refine y_bipush cx dC_X1_init_21 23 rfl (by decide) ?_
  refine z_newa (ty := .int) (n := 24) (a0 := (24, .inl (wi (fun _ => 0)))) (W := fun p3 => ((h, .inr (1, [.null, .ref p1, .ref p2, .null, .null, .null, .int 0, .int 0, .null, .null, .int 0, .int 0])) :: ([(p1, .inl (g.2.1 0, 10, .inl (wi (fun _ => 0))))] ++ [(p2, .inl (g.2.1 0, 24, .inl (wi (fun _ => 0))))] ++ [(p3, .inl (g.2.1 0, 24, .inl (wi (fun _ => 0))))]))) cx 0 dC_X1_init_23 25 rfl qk_113 rfl rfl (fun _ _ h => h) (fun _ => rfl) (by decide) (by decide) (Nat.le_of_ble_eq_true rfl) (Nat.le_of_ble_eq_true rfl) (fun _ => rfl) (fun p3 => ?_)
  refine z_putF (q0 := 0) (ci := 1) (w' := ((h, .inr (1, [.null, .ref p1, .ref p2, .ref p3, .null, .null, .int 0, .int 0, .null, .null, .int 0, .int 0])) :: ([(p1, .inl (g.2.1 0, 10, .inl (wi (fun _ => 0))))] ++ [(p2, .inl (g.2.1 0, 24, .inl (wi (fun _ => 0))))] ++ [(p3, .inl (g.2.1 0, 24, .inl (wi (fun _ => 0))))]))) cx hin dC_X1_init_25 28 rfl rfl rfl zX1 tyX1_ok nmX1 3 (by decide) qk_266 rfl rfl rfl rfl rfl (Nat.le_of_ble_eq_true rfl) rfl ?_
  refine z_aload_n cx dC_X1_init_28 29 rfl rfl 0 rfl ?_
  refine y_bipush cx dC_X1_init_29 31 rfl (by decide) ?_
  refine z_newa (ty := .int) (n := 24) (a0 := (24, .inl (wi (fun _ => 0)))) (W := fun p4 => ((h, .inr (1, [.null, .ref p1, .ref p2, .ref p3, .null, .null, .int 0, .int 0, .null, .null, .int 0, .int 0])) :: ([(p1, .inl (g.2.1 0, 10, .inl (wi (fun _ => 0))))] ++ [(p2, .inl (g.2.1 0, 24, .inl (wi (fun _ => 0))))] ++ [(p3, .inl (g.2.1 0, 24, .inl (wi (fun _ => 0))))] ++ [(p4, .inl (g.2.1 0, 24, .inl (wi (fun _ => 0))))]))) cx 0 dC_X1_init_31 33 rfl qk_113 rfl rfl (fun _ _ h => h) (fun _ => rfl) (by decide) (by decide) (Nat.le_of_ble_eq_true rfl) (Nat.le_of_ble_eq_true rfl) (fun _ => rfl) (fun p4 => ?_)
  refine z_putF (q0 := 0) (ci := 1) (w' := ((h, .inr (1, [.null, .ref p1, .ref p2, .ref p3, .ref p4, .null, .int 0, .int 0, .null, .null, .int 0, .int 0])) :: ([(p1, .inl (g.2.1 0, 10, .inl (wi (fun _ => 0))))] ++ [(p2, .inl (g.2.1 0, 24, .inl (wi (fun _ => 0))))] ++ [(p3, .inl (g.2.1 0, 24, .inl (wi (fun _ => 0))))] ++ [(p4, .inl (g.2.1 0, 24, .inl (wi (fun _ => 0))))]))) cx hin dC_X1_init_33 36 rfl rfl rfl zX1 tyX1_ok nmX1 4 (by decide) qk_267 rfl rfl rfl rfl rfl (Nat.le_of_ble_eq_true rfl) rfl ?_
  refine z_aload_n cx dC_X1_init_36 37 rfl rfl 0 rfl ?_
  refine y_bipush cx dC_X1_init_37 39 rfl (by decide) ?_
  refine z_newa (ty := .int) (n := 24) (a0 := (24, .inl (wi (fun _ => 0)))) (W := fun p5 => ((h, .inr (1, [.null, .ref p1, .ref p2, .ref p3, .ref p4, .null, .int 0, .int 0, .null, .null, .int 0, .int 0])) :: ([(p1, .inl (g.2.1 0, 10, .inl (wi (fun _ => 0))))] ++ [(p2, .inl (g.2.1 0, 24, .inl (wi (fun _ => 0))))] ++ [(p3, .inl (g.2.1 0, 24, .inl (wi (fun _ => 0))))] ++ [(p4, .inl (g.2.1 0, 24, .inl (wi (fun _ => 0))))] ++ [(p5, .inl (g.2.1 0, 24, .inl (wi (fun _ => 0))))]))) cx 0 dC_X1_init_39 41 rfl qk_113 rfl rfl (fun _ _ h => h) (fun _ => rfl) (by decide) (by decide) (Nat.le_of_ble_eq_true rfl) (Nat.le_of_ble_eq_true rfl) (fun _ => rfl) (fun p5 => ?_)
  refine z_putF (q0 := 0) (ci := 1) (w' := ((h, .inr (1, [.null, .ref p1, .ref p2, .ref p3, .ref p4, .ref p5, .int 0, .int 0, .null, .null, .int 0, .int 0])) :: ([(p1, .inl (g.2.1 0, 10, .inl (wi (fun _ => 0))))] ++ [(p2, .inl (g.2.1 0, 24, .inl (wi (fun _ => 0))))] ++ [(p3, .inl (g.2.1 0, 24, .inl (wi (fun _ => 0))))] ++ [(p4, .inl (g.2.1 0, 24, .inl (wi (fun _ => 0))))] ++ [(p5, .inl (g.2.1 0, 24, .inl (wi (fun _ => 0))))]))) cx hin dC_X1_init_41 44 rfl rfl rfl zX1 tyX1_ok nmX1 5 (by decide) qk_268 rfl rfl rfl rfl rfl (Nat.le_of_ble_eq_true rfl) rfl ?_
  refine z_aload_n cx dC_X1_init_44 45 rfl rfl 0 rfl ?_
  refine y_bipush cx dC_X1_init_45 47 rfl (by decide) ?_
  refine z_newa (ty := .int) (n := 24) (a0 := (24, .inl (wi (fun _ => 0)))) (W := fun p6 => ((h, .inr (1, [.null, .ref p1, .ref p2, .ref p3, .ref p4, .ref p5, .int 0, .int 0, .null, .null, .int 0, .int 0])) :: ([(p1, .inl (g.2.1 0, 10, .inl (wi (fun _ => 0))))] ++ [(p2, .inl (g.2.1 0, 24, .inl (wi (fun _ => 0))))] ++ [(p3, .inl (g.2.1 0, 24, .inl (wi (fun _ => 0))))] ++ [(p4, .inl (g.2.1 0, 24, .inl (wi (fun _ => 0))))] ++ [(p5, .inl (g.2.1 0, 24, .inl (wi (fun _ => 0))))] ++ [(p6, .inl (g.2.1 0, 24, .inl (wi (fun _ => 0))))]))) cx 0 dC_X1_init_47 49 rfl qk_113 rfl rfl (fun _ _ h => h) (fun _ => rfl) (by decide) (by decide) (Nat.le_of_ble_eq_true rfl) (Nat.le_of_ble_eq_true rfl) (fun _ => rfl) (fun p6 => ?_)
  refine z_putF (q0 := 0) (ci := 1) (w' := ((h, .inr (1, [.null, .ref p1, .ref p2, .ref p3, .ref p4, .ref p5, .int 0, .int 0, .ref p6, .null, .int 0, .int 0])) :: ([(p1, .inl (g.2.1 0, 10, .inl (wi (fun _ => 0))))] ++ [(p2, .inl (g.2.1 0, 24, .inl (wi (fun _ => 0))))] ++ [(p3, .inl (g.2.1 0, 24, .inl (wi (fun _ => 0))))] ++ [(p4, .inl (g.2.1 0, 24, .inl (wi (fun _ => 0))))] ++ [(p5, .inl (g.2.1 0, 24, .inl (wi (fun _ => 0))))] ++ [(p6, .inl (g.2.1 0, 24, .inl (wi (fun _ => 0))))]))) cx hin dC_X1_init_49 52 rfl rfl rfl zX1 tyX1_ok nmX1 8 (by decide) qk_271 rfl rfl rfl rfl rfl (Nat.le_of_ble_eq_true rfl) rfl ?_
  refine z_aload_n cx dC_X1_init_52 53 rfl rfl 0 rfl ?_
  refine y_bipush cx dC_X1_init_53 55 rfl (by decide) ?_
  refine z_newa (ty := .int) (n := 24) (a0 := (24, .inl (wi (fun _ => 0)))) (W := fun p7 => ((h, .inr (1, [.null, .ref p1, .ref p2, .ref p3, .ref p4, .ref p5, .int 0, .int 0, .ref p6, .null, .int 0, .int 0])) :: ([(p1, .inl (g.2.1 0, 10, .inl (wi (fun _ => 0))))] ++ [(p2, .inl (g.2.1 0, 24, .inl (wi (fun _ => 0))))] ++ [(p3, .inl (g.2.1 0, 24, .inl (wi (fun _ => 0))))] ++ [(p4, .inl (g.2.1 0, 24, .inl (wi (fun _ => 0))))] ++ [(p5, .inl (g.2.1 0, 24, .inl (wi (fun _ => 0))))] ++ [(p6, .inl (g.2.1 0, 24, .inl (wi (fun _ => 0))))] ++ [(p7, .inl (g.2.1 0, 24, .inl (wi (fun _ => 0))))]))) cx 0 dC_X1_init_55 57 rfl qk_113 rfl rfl (fun _ _ h => h) (fun _ => rfl) (by decide) (by decide) (Nat.le_of_ble_eq_true rfl) (Nat.le_of_ble_eq_true rfl) (fun _ => rfl) (fun p7 => ?_)
  refine z_putF (q0 := 0) (ci := 1) (w' := ((h, .inr (1, [.null, .ref p1, .ref p2, .ref p3, .ref p4, .ref p5, .int 0, .int 0, .ref p6, .ref p7, .int 0, .int 0])) :: ([(p1, .inl (g.2.1 0, 10, .inl (wi (fun _ => 0))))] ++ [(p2, .inl (g.2.1 0, 24, .inl (wi (fun _ => 0))))] ++ [(p3, .inl (g.2.1 0, 24, .inl (wi (fun _ => 0))))] ++ [(p4, .inl (g.2.1 0, 24, .inl (wi (fun _ => 0))))] ++ [(p5, .inl (g.2.1 0, 24, .inl (wi (fun _ => 0))))] ++ [(p6, .inl (g.2.1 0, 24, .inl (wi (fun _ => 0))))] ++ [(p7, .inl (g.2.1 0, 24, .inl (wi (fun _ => 0))))]))) cx hin dC_X1_init_57 60 rfl rfl rfl zX1 tyX1_ok nmX1 9 (by decide) qk_272 rfl rfl rfl rfl rfl (Nat.le_of_ble_eq_true rfl) rfl ?_
  refine z_aload_n cx dC_X1_init_60 61 rfl rfl 0 rfl ?_
  refine z_aload_n cx dC_X1_init_61 62 rfl rfl 1 rfl ?_
  refine z_putF (q0 := 0) (ci := 1) (w' := ((h, .inr (1, [.ref a1, .ref p1, .ref p2, .ref p3, .ref p4, .ref p5, .int 0, .int 0, .ref p6, .ref p7, .int 0, .int 0])) :: ([(p1, .inl (g.2.1 0, 10, .inl (wi (fun _ => 0))))] ++ [(p2, .inl (g.2.1 0, 24, .inl (wi (fun _ => 0))))] ++ [(p3, .inl (g.2.1 0, 24, .inl (wi (fun _ => 0))))] ++ [(p4, .inl (g.2.1 0, 24, .inl (wi (fun _ => 0))))] ++ [(p5, .inl (g.2.1 0, 24, .inl (wi (fun _ => 0))))] ++ [(p6, .inl (g.2.1 0, 24, .inl (wi (fun _ => 0))))] ++ [(p7, .inl (g.2.1 0, 24, .inl (wi (fun _ => 0))))]))) cx hin dC_X1_init_62 65 rfl rfl rfl zX1 tyX1_ok nmX1 0 (by decide) qk_263 rfl rfl rfl rfl rfl (Nat.le_of_ble_eq_true rfl) rfl ?_
  refine z_widen (k := 7) (n := 154) (Nat.le_of_ble_eq_true rfl) (Nat.le_of_ble_eq_true rfl) ?_
  subst hQ
  exact z_vretA (W9 := wI_X1_init g h a1) cx dC_X1_init_65 (fun i => [p1, p2, p3, p4, p5, p6, p7].getD i 0) rfl
set_option maxHeartbeats 4000000 in
theorem tC_X8_init {l : Launch} {ks : ZS} {g : ZG} {h a1 : Nat} : zMa l ks yX8_init cX8_init 3 zC_X8_init g [.ref h, .ref a1] [(h, .inr (8, [.null, .null, .null, .null, .int 0, .int 0, .int 0]))] (wI_X8_init g h a1) := by
  refine zMa_of (own := RX8) rfl (by decide +kernel) (Nat.le_of_ble_eq_true rfl) (lv := [(0, .ref h), (1, .ref a1)]) rfl rfl ?_
  intro p e s m args below meth c A Q hQ cx hE hin
  refine z_aload_n cx dC_X8_init_0 1 rfl rfl 0 rfl ?_
  refine z_obj cx dC_X8_init_1 4 rfl qk_305 qk_56 qk_57 (Nat.le_of_ble_eq_true rfl) (Nat.le_of_ble_eq_true rfl) ?_
  refine z_aload_n cx dC_X8_init_4 5 rfl rfl 0 rfl ?_
  refine y_sipush cx dC_X8_init_5 8 rfl (by decide) ?_
  refine z_newa (ty := .int) (n := 1024) (a0 := (1024, .inl (wi (fun _ => 0)))) (W := fun p1 => ((h, .inr (8, [.null, .null, .null, .null, .int 0, .int 0, .int 0])) :: ([(p1, .inl (g.2.1 0, 1024, .inl (wi (fun _ => 0))))]))) cx 0 dC_X8_init_8 10 rfl qk_113 rfl rfl (fun _ _ h => h) (fun _ => rfl) (by decide) (by decide) (Nat.le_of_ble_eq_true rfl) (Nat.le_of_ble_eq_true rfl) (fun _ => rfl) (fun p1 => ?_)
  refine z_putF (q0 := 0) (ci := 8) (w' := ((h, .inr (8, [.null, .ref p1, .null, .null, .int 0, .int 0, .int 0])) :: ([(p1, .inl (g.2.1 0, 1024, .inl (wi (fun _ => 0))))]))) cx hin dC_X8_init_10 13 rfl rfl rfl zX8 tyX8_ok nmX8 1 (by decide) qk_307 rfl rfl rfl rfl rfl (Nat.le_of_ble_eq_true rfl) rfl ?_
  refine z_aload_n cx dC_X8_init_13 14 rfl rfl 0 rfl ?_
  refine y_sipush cx dC_X8_init_14 17 rfl (by decide) ?_
  refine z_newa (ty := .int) (n := 1024) (a0 := (1024, .inl (wi (fun _ => 0)))) (W := fun p2 => ((h, .inr (8, [.null, .ref p1, .null, .null, .int 0, .int 0, .int 0])) :: ([(p1, .inl (g.2.1 0, 1024, .inl (wi (fun _ => 0))))] ++ [(p2, .inl (g.2.1 0, 1024, .inl (wi (fun _ => 0))))]))) cx 0 dC_X8_init_17 19 rfl qk_113 rfl rfl (fun _ _ h => h) (fun _ => rfl) (by decide) (by decide) (Nat.le_of_ble_eq_true rfl) (Nat.le_of_ble_eq_true rfl) (fun _ => rfl) (fun p2 => ?_)
  refine z_putF (q0 := 0) (ci := 8) (w' := ((h, .inr (8, [.null, .ref p1, .ref p2, .null, .int 0, .int 0, .int 0])) :: ([(p1, .inl (g.2.1 0, 1024, .inl (wi (fun _ => 0))))] ++ [(p2, .inl (g.2.1 0, 1024, .inl (wi (fun _ => 0))))]))) cx hin dC_X8_init_19 22 rfl rfl rfl zX8 tyX8_ok nmX8 2 (by decide) qk_308 rfl rfl rfl rfl rfl (Nat.le_of_ble_eq_true rfl) rfl ?_
  refine z_aload_n cx dC_X8_init_22 23 rfl rfl 0 rfl ?_
  refine y_bipush cx dC_X8_init_23 25 rfl (by decide) ?_
  refine z_newa (ty := .int) (n := 10) (a0 := (10, .inl (wi (fun _ => 0)))) (W := fun p3 => ((h, .inr (8, [.null, .ref p1, .ref p2, .null, .int 0, .int 0, .int 0])) :: ([(p1, .inl (g.2.1 0, 1024, .inl (wi (fun _ => 0))))] ++ [(p2, .inl (g.2.1 0, 1024, .inl (wi (fun _ => 0))))] ++ [(p3, .inl (g.2.1 0, 10, .inl (wi (fun _ => 0))))]))) cx 0 dC_X8_init_25 27 rfl qk_113 rfl rfl (fun _ _ h => h) (fun _ => rfl) (by decide) (by decide) (Nat.le_of_ble_eq_true rfl) (Nat.le_of_ble_eq_true rfl) (fun _ => rfl) (fun p3 => ?_)
  refine z_putF (q0 := 0) (ci := 8) (w' := ((h, .inr (8, [.null, .ref p1, .ref p2, .ref p3, .int 0, .int 0, .int 0])) :: ([(p1, .inl (g.2.1 0, 1024, .inl (wi (fun _ => 0))))] ++ [(p2, .inl (g.2.1 0, 1024, .inl (wi (fun _ => 0))))] ++ [(p3, .inl (g.2.1 0, 10, .inl (wi (fun _ => 0))))]))) cx hin dC_X8_init_27 30 rfl rfl rfl zX8 tyX8_ok nmX8 3 (by decide) qk_309 rfl rfl rfl rfl rfl (Nat.le_of_ble_eq_true rfl) rfl ?_
  refine z_aload_n cx dC_X8_init_30 31 rfl rfl 0 rfl ?_
  refine z_aload_n cx dC_X8_init_31 32 rfl rfl 1 rfl ?_
  refine z_putF (q0 := 0) (ci := 8) (w' := ((h, .inr (8, [.ref a1, .ref p1, .ref p2, .ref p3, .int 0, .int 0, .int 0])) :: ([(p1, .inl (g.2.1 0, 1024, .inl (wi (fun _ => 0))))] ++ [(p2, .inl (g.2.1 0, 1024, .inl (wi (fun _ => 0))))] ++ [(p3, .inl (g.2.1 0, 10, .inl (wi (fun _ => 0))))]))) cx hin dC_X8_init_32 35 rfl rfl rfl zX8 tyX8_ok nmX8 0 (by decide) qk_306 rfl rfl rfl rfl rfl (Nat.le_of_ble_eq_true rfl) rfl ?_
  refine y_iconst cx dC_X8_init_35 36 rfl ?_
  refine y_istore_n cx dC_X8_init_36 37 rfl rfl (by decide) (lv' := [(2, .int (zI 0)), (0, .ref h), (1, .ref a1)]) rfl ?_
  refine z_iload_n cx dC_X8_init_37 38 rfl rfl 0 rfl ?_
  refine y_bipush cx dC_X8_init_38 40 rfl (by decide) ?_
  refine z_icmp_ge cx dC_X8_init_40 43 rfl 56 (by decide) (fun h => absurd h (by decide)) (fun _ => ?_)
  refine z_aload_n cx dC_X8_init_43 44 rfl rfl 1 rfl ?_
  refine z_get (q0 := 0) (ci := 8) cx dC_X8_init_44 47 rfl rfl rfl zX8 3 (by decide) qk_309 rfl rfl ?_
  refine z_iload_n cx dC_X8_init_47 48 rfl rfl 0 rfl ?_
  refine z_iload_n cx dC_X8_init_48 49 rfl rfl 0 rfl ?_
  refine z_iast (q0 := 3) (n := 10) (i := zI 0) (x := zI 0) (w' := ((h, .inr (8, [.ref a1, .ref p1, .ref p2, .ref p3, .int 0, .int 0, .int 0])) :: ([(p1, .inl (g.2.1 0, 1024, .inl (wi (fun _ => 0))))] ++ [(p2, .inl (g.2.1 0, 1024, .inl (wi (fun _ => 0))))] ++ [(p3, .inl (g.2.1 0, 10, .inl (wi (up (fun _ => 0) 0 0))))]))) cx dC_X8_init_49 50 rfl rfl (zin_I (i := 0) (by decide) (by decide)) (by rw [ztn (i := 0) (n := 10) (by decide) (by decide), wi_up]; rfl) ?_
  refine z_iinc (n := 1) (x := zI 0) (y := zI 1) (lv' := [(2, .int (zI 1)), (0, .ref h), (1, .ref a1)]) cx 0 dC_X8_init_50 53 rfl rfl (by decide) rfl (by decide) ?_
  refine z_goto cx dC_X8_init_53 37 (by decide) ?_
  refine z_iload_n cx dC_X8_init_37 38 rfl rfl 0 rfl ?_
  refine y_bipush cx dC_X8_init_38 40 rfl (by decide) ?_
  refine z_icmp_ge cx dC_X8_init_40 43 rfl 56 (by decide) (fun h => absurd h (by decide)) (fun _ => ?_)
  refine z_aload_n cx dC_X8_init_43 44 rfl rfl 1 rfl ?_
  refine z_get (q0 := 0) (ci := 8) cx dC_X8_init_44 47 rfl rfl rfl zX8 3 (by decide) qk_309 rfl rfl ?_
  refine z_iload_n cx dC_X8_init_47 48 rfl rfl 0 rfl ?_
  refine z_iload_n cx dC_X8_init_48 49 rfl rfl 0 rfl ?_
  refine z_iast (q0 := 3) (n := 10) (i := zI 1) (x := zI 1) (w' := ((h, .inr (8, [.ref a1, .ref p1, .ref p2, .ref p3, .int 0, .int 0, .int 0])) :: ([(p1, .inl (g.2.1 0, 1024, .inl (wi (fun _ => 0))))] ++ [(p2, .inl (g.2.1 0, 1024, .inl (wi (fun _ => 0))))] ++ [(p3, .inl (g.2.1 0, 10, .inl (wi (up (up (fun _ => 0) 0 0) 1 1))))]))) cx dC_X8_init_49 50 rfl rfl (zin_I (i := 1) (by decide) (by decide)) (by rw [ztn (i := 1) (n := 10) (by decide) (by decide), wi_up]; rfl) ?_
  refine z_iinc (n := 1) (x := zI 1) (y := zI 2) (lv' := [(2, .int (zI 2)), (0, .ref h), (1, .ref a1)]) cx 0 dC_X8_init_50 53 rfl rfl (by decide) rfl (by decide) ?_
  refine z_goto cx dC_X8_init_53 37 (by decide) ?_
  refine z_iload_n cx dC_X8_init_37 38 rfl rfl 0 rfl ?_
  refine y_bipush cx dC_X8_init_38 40 rfl (by decide) ?_
  refine z_icmp_ge cx dC_X8_init_40 43 rfl 56 (by decide) (fun h => absurd h (by decide)) (fun _ => ?_)
  refine z_aload_n cx dC_X8_init_43 44 rfl rfl 1 rfl ?_
  refine z_get (q0 := 0) (ci := 8) cx dC_X8_init_44 47 rfl rfl rfl zX8 3 (by decide) qk_309 rfl rfl ?_
  refine z_iload_n cx dC_X8_init_47 48 rfl rfl 0 rfl ?_
  refine z_iload_n cx dC_X8_init_48 49 rfl rfl 0 rfl ?_
  refine z_iast (q0 := 3) (n := 10) (i := zI 2) (x := zI 2) (w' := ((h, .inr (8, [.ref a1, .ref p1, .ref p2, .ref p3, .int 0, .int 0, .int 0])) :: ([(p1, .inl (g.2.1 0, 1024, .inl (wi (fun _ => 0))))] ++ [(p2, .inl (g.2.1 0, 1024, .inl (wi (fun _ => 0))))] ++ [(p3, .inl (g.2.1 0, 10, .inl (wi (up (up (up (fun _ => 0) 0 0) 1 1) 2 2))))]))) cx dC_X8_init_49 50 rfl rfl (zin_I (i := 2) (by decide) (by decide)) (by rw [ztn (i := 2) (n := 10) (by decide) (by decide), wi_up]; rfl) ?_
  refine z_iinc (n := 1) (x := zI 2) (y := zI 3) (lv' := [(2, .int (zI 3)), (0, .ref h), (1, .ref a1)]) cx 0 dC_X8_init_50 53 rfl rfl (by decide) rfl (by decide) ?_
  refine z_goto cx dC_X8_init_53 37 (by decide) ?_
  refine z_iload_n cx dC_X8_init_37 38 rfl rfl 0 rfl ?_
  refine y_bipush cx dC_X8_init_38 40 rfl (by decide) ?_
  refine z_icmp_ge cx dC_X8_init_40 43 rfl 56 (by decide) (fun h => absurd h (by decide)) (fun _ => ?_)
  refine z_aload_n cx dC_X8_init_43 44 rfl rfl 1 rfl ?_
  refine z_get (q0 := 0) (ci := 8) cx dC_X8_init_44 47 rfl rfl rfl zX8 3 (by decide) qk_309 rfl rfl ?_
  refine z_iload_n cx dC_X8_init_47 48 rfl rfl 0 rfl ?_
  refine z_iload_n cx dC_X8_init_48 49 rfl rfl 0 rfl ?_
  refine z_iast (q0 := 3) (n := 10) (i := zI 3) (x := zI 3) (w' := ((h, .inr (8, [.ref a1, .ref p1, .ref p2, .ref p3, .int 0, .int 0, .int 0])) :: ([(p1, .inl (g.2.1 0, 1024, .inl (wi (fun _ => 0))))] ++ [(p2, .inl (g.2.1 0, 1024, .inl (wi (fun _ => 0))))] ++ [(p3, .inl (g.2.1 0, 10, .inl (wi (up (up (up (up (fun _ => 0) 0 0) 1 1) 2 2) 3 3))))]))) cx dC_X8_init_49 50 rfl rfl (zin_I (i := 3) (by decide) (by decide)) (by rw [ztn (i := 3) (n := 10) (by decide) (by decide), wi_up]; rfl) ?_
  refine z_iinc (n := 1) (x := zI 3) (y := zI 4) (lv' := [(2, .int (zI 4)), (0, .ref h), (1, .ref a1)]) cx 0 dC_X8_init_50 53 rfl rfl (by decide) rfl (by decide) ?_
  refine z_goto cx dC_X8_init_53 37 (by decide) ?_
  refine z_iload_n cx dC_X8_init_37 38 rfl rfl 0 rfl ?_
  refine y_bipush cx dC_X8_init_38 40 rfl (by decide) ?_
  refine z_icmp_ge cx dC_X8_init_40 43 rfl 56 (by decide) (fun h => absurd h (by decide)) (fun _ => ?_)
  refine z_aload_n cx dC_X8_init_43 44 rfl rfl 1 rfl ?_
  refine z_get (q0 := 0) (ci := 8) cx dC_X8_init_44 47 rfl rfl rfl zX8 3 (by decide) qk_309 rfl rfl ?_
  refine z_iload_n cx dC_X8_init_47 48 rfl rfl 0 rfl ?_
  refine z_iload_n cx dC_X8_init_48 49 rfl rfl 0 rfl ?_
  refine z_iast (q0 := 3) (n := 10) (i := zI 4) (x := zI 4) (w' := ((h, .inr (8, [.ref a1, .ref p1, .ref p2, .ref p3, .int 0, .int 0, .int 0])) :: ([(p1, .inl (g.2.1 0, 1024, .inl (wi (fun _ => 0))))] ++ [(p2, .inl (g.2.1 0, 1024, .inl (wi (fun _ => 0))))] ++ [(p3, .inl (g.2.1 0, 10, .inl (wi (up (up (up (up (up (fun _ => 0) 0 0) 1 1) 2 2) 3 3) 4 4))))]))) cx dC_X8_init_49 50 rfl rfl (zin_I (i := 4) (by decide) (by decide)) (by rw [ztn (i := 4) (n := 10) (by decide) (by decide), wi_up]; rfl) ?_
  refine z_iinc (n := 1) (x := zI 4) (y := zI 5) (lv' := [(2, .int (zI 5)), (0, .ref h), (1, .ref a1)]) cx 0 dC_X8_init_50 53 rfl rfl (by decide) rfl (by decide) ?_
  refine z_goto cx dC_X8_init_53 37 (by decide) ?_
  refine z_iload_n cx dC_X8_init_37 38 rfl rfl 0 rfl ?_
  refine y_bipush cx dC_X8_init_38 40 rfl (by decide) ?_
  refine z_icmp_ge cx dC_X8_init_40 43 rfl 56 (by decide) (fun h => absurd h (by decide)) (fun _ => ?_)
  refine z_aload_n cx dC_X8_init_43 44 rfl rfl 1 rfl ?_
  refine z_get (q0 := 0) (ci := 8) cx dC_X8_init_44 47 rfl rfl rfl zX8 3 (by decide) qk_309 rfl rfl ?_
  refine z_iload_n cx dC_X8_init_47 48 rfl rfl 0 rfl ?_
  refine z_iload_n cx dC_X8_init_48 49 rfl rfl 0 rfl ?_
  refine z_iast (q0 := 3) (n := 10) (i := zI 5) (x := zI 5) (w' := ((h, .inr (8, [.ref a1, .ref p1, .ref p2, .ref p3, .int 0, .int 0, .int 0])) :: ([(p1, .inl (g.2.1 0, 1024, .inl (wi (fun _ => 0))))] ++ [(p2, .inl (g.2.1 0, 1024, .inl (wi (fun _ => 0))))] ++ [(p3, .inl (g.2.1 0, 10, .inl (wi (up (up (up (up (up (up (fun _ => 0) 0 0) 1 1) 2 2) 3 3) 4 4) 5 5))))]))) cx dC_X8_init_49 50 rfl rfl (zin_I (i := 5) (by decide) (by decide)) (by rw [ztn (i := 5) (n := 10) (by decide) (by decide), wi_up]; rfl) ?_
  refine z_iinc (n := 1) (x := zI 5) (y := zI 6) (lv' := [(2, .int (zI 6)), (0, .ref h), (1, .ref a1)]) cx 0 dC_X8_init_50 53 rfl rfl (by decide) rfl (by decide) ?_
  refine z_goto cx dC_X8_init_53 37 (by decide) ?_
  refine z_iload_n cx dC_X8_init_37 38 rfl rfl 0 rfl ?_
  refine y_bipush cx dC_X8_init_38 40 rfl (by decide) ?_
  refine z_icmp_ge cx dC_X8_init_40 43 rfl 56 (by decide) (fun h => absurd h (by decide)) (fun _ => ?_)
  refine z_aload_n cx dC_X8_init_43 44 rfl rfl 1 rfl ?_
  refine z_get (q0 := 0) (ci := 8) cx dC_X8_init_44 47 rfl rfl rfl zX8 3 (by decide) qk_309 rfl rfl ?_
  refine z_iload_n cx dC_X8_init_47 48 rfl rfl 0 rfl ?_
  refine z_iload_n cx dC_X8_init_48 49 rfl rfl 0 rfl ?_
  refine z_iast (q0 := 3) (n := 10) (i := zI 6) (x := zI 6) (w' := ((h, .inr (8, [.ref a1, .ref p1, .ref p2, .ref p3, .int 0, .int 0, .int 0])) :: ([(p1, .inl (g.2.1 0, 1024, .inl (wi (fun _ => 0))))] ++ [(p2, .inl (g.2.1 0, 1024, .inl (wi (fun _ => 0))))] ++ [(p3, .inl (g.2.1 0, 10, .inl (wi (up (up (up (up (up (up (up (fun _ => 0) 0 0) 1 1) 2 2) 3 3) 4 4) 5 5) 6 6))))]))) cx dC_X8_init_49 50 rfl rfl (zin_I (i := 6) (by decide) (by decide)) (by rw [ztn (i := 6) (n := 10) (by decide) (by decide), wi_up]; rfl) ?_
  refine z_iinc (n := 1) (x := zI 6) (y := zI 7) (lv' := [(2, .int (zI 7)), (0, .ref h), (1, .ref a1)]) cx 0 dC_X8_init_50 53 rfl rfl (by decide) rfl (by decide) ?_
  refine z_goto cx dC_X8_init_53 37 (by decide) ?_
  refine z_iload_n cx dC_X8_init_37 38 rfl rfl 0 rfl ?_
  refine y_bipush cx dC_X8_init_38 40 rfl (by decide) ?_
  refine z_icmp_ge cx dC_X8_init_40 43 rfl 56 (by decide) (fun h => absurd h (by decide)) (fun _ => ?_)
  refine z_aload_n cx dC_X8_init_43 44 rfl rfl 1 rfl ?_
  refine z_get (q0 := 0) (ci := 8) cx dC_X8_init_44 47 rfl rfl rfl zX8 3 (by decide) qk_309 rfl rfl ?_
  refine z_iload_n cx dC_X8_init_47 48 rfl rfl 0 rfl ?_
  refine z_iload_n cx dC_X8_init_48 49 rfl rfl 0 rfl ?_
  refine z_iast (q0 := 3) (n := 10) (i := zI 7) (x := zI 7) (w' := ((h, .inr (8, [.ref a1, .ref p1, .ref p2, .ref p3, .int 0, .int 0, .int 0])) :: ([(p1, .inl (g.2.1 0, 1024, .inl (wi (fun _ => 0))))] ++ [(p2, .inl (g.2.1 0, 1024, .inl (wi (fun _ => 0))))] ++ [(p3, .inl (g.2.1 0, 10, .inl (wi (up (up (up (up (up (up (up (up (fun _ => 0) 0 0) 1 1) 2 2) 3 3) 4 4) 5 5) 6 6) 7 7))))]))) cx dC_X8_init_49 50 rfl rfl (zin_I (i := 7) (by decide) (by decide)) (by rw [ztn (i := 7) (n := 10) (by decide) (by decide), wi_up]; rfl) ?_
  refine z_iinc (n := 1) (x := zI 7) (y := zI 8) (lv' := [(2, .int (zI 8)), (0, .ref h), (1, .ref a1)]) cx 0 dC_X8_init_50 53 rfl rfl (by decide) rfl (by decide) ?_
  refine z_goto cx dC_X8_init_53 37 (by decide) ?_
  refine z_iload_n cx dC_X8_init_37 38 rfl rfl 0 rfl ?_
  refine y_bipush cx dC_X8_init_38 40 rfl (by decide) ?_
  refine z_icmp_ge cx dC_X8_init_40 43 rfl 56 (by decide) (fun h => absurd h (by decide)) (fun _ => ?_)
  refine z_aload_n cx dC_X8_init_43 44 rfl rfl 1 rfl ?_
  refine z_get (q0 := 0) (ci := 8) cx dC_X8_init_44 47 rfl rfl rfl zX8 3 (by decide) qk_309 rfl rfl ?_
  refine z_iload_n cx dC_X8_init_47 48 rfl rfl 0 rfl ?_
  refine z_iload_n cx dC_X8_init_48 49 rfl rfl 0 rfl ?_
  refine z_iast (q0 := 3) (n := 10) (i := zI 8) (x := zI 8) (w' := ((h, .inr (8, [.ref a1, .ref p1, .ref p2, .ref p3, .int 0, .int 0, .int 0])) :: ([(p1, .inl (g.2.1 0, 1024, .inl (wi (fun _ => 0))))] ++ [(p2, .inl (g.2.1 0, 1024, .inl (wi (fun _ => 0))))] ++ [(p3, .inl (g.2.1 0, 10, .inl (wi (up (up (up (up (up (up (up (up (up (fun _ => 0) 0 0) 1 1) 2 2) 3 3) 4 4) 5 5) 6 6) 7 7) 8 8))))]))) cx dC_X8_init_49 50 rfl rfl (zin_I (i := 8) (by decide) (by decide)) (by rw [ztn (i := 8) (n := 10) (by decide) (by decide), wi_up]; rfl) ?_
  refine z_iinc (n := 1) (x := zI 8) (y := zI 9) (lv' := [(2, .int (zI 9)), (0, .ref h), (1, .ref a1)]) cx 0 dC_X8_init_50 53 rfl rfl (by decide) rfl (by decide) ?_
  refine z_goto cx dC_X8_init_53 37 (by decide) ?_
  refine z_iload_n cx dC_X8_init_37 38 rfl rfl 0 rfl ?_
  refine y_bipush cx dC_X8_init_38 40 rfl (by decide) ?_
  refine z_icmp_ge cx dC_X8_init_40 43 rfl 56 (by decide) (fun h => absurd h (by decide)) (fun _ => ?_)
  refine z_aload_n cx dC_X8_init_43 44 rfl rfl 1 rfl ?_
  refine z_get (q0 := 0) (ci := 8) cx dC_X8_init_44 47 rfl rfl rfl zX8 3 (by decide) qk_309 rfl rfl ?_
  refine z_iload_n cx dC_X8_init_47 48 rfl rfl 0 rfl ?_
  refine z_iload_n cx dC_X8_init_48 49 rfl rfl 0 rfl ?_
  refine z_iast (q0 := 3) (n := 10) (i := zI 9) (x := zI 9) (w' := ((h, .inr (8, [.ref a1, .ref p1, .ref p2, .ref p3, .int 0, .int 0, .int 0])) :: ([(p1, .inl (g.2.1 0, 1024, .inl (wi (fun _ => 0))))] ++ [(p2, .inl (g.2.1 0, 1024, .inl (wi (fun _ => 0))))] ++ [(p3, .inl (g.2.1 0, 10, .inl (wi (up (up (up (up (up (up (up (up (up (up (fun _ => 0) 0 0) 1 1) 2 2) 3 3) 4 4) 5 5) 6 6) 7 7) 8 8) 9 9))))]))) cx dC_X8_init_49 50 rfl rfl (zin_I (i := 9) (by decide) (by decide)) (by rw [ztn (i := 9) (n := 10) (by decide) (by decide), wi_up]; rfl) ?_
  refine z_iinc (n := 1) (x := zI 9) (y := zI 10) (lv' := [(2, .int (zI 10)), (0, .ref h), (1, .ref a1)]) cx 0 dC_X8_init_50 53 rfl rfl (by decide) rfl (by decide) ?_
  refine z_goto cx dC_X8_init_53 37 (by decide) ?_
  refine z_iload_n cx dC_X8_init_37 38 rfl rfl 0 rfl ?_
  refine y_bipush cx dC_X8_init_38 40 rfl (by decide) ?_
  refine z_icmp_ge cx dC_X8_init_40 43 rfl 56 (by decide) (fun _ => ?_) (fun h => absurd (by decide) h)
  refine z_widen (k := 3) (n := 2058) (Nat.le_of_ble_eq_true rfl) (Nat.le_of_ble_eq_true rfl) ?_
  subst hQ
  exact z_vretA (W9 := wI_X8_init g h a1) cx dC_X8_init_56 (fun i => [p1, p2, p3].getD i 0) rfl
set_option maxHeartbeats 4000000 in
theorem tC_X4_init {l : Launch} {ks : ZS} {g : ZG} {h a1 a2 : Nat} : zMa l ks yX4_init cX4_init 3 zC_X4_init g [.ref h, .ref a1, .ref a2] [(h, .inr (4, [.null, .null, .null, .null, .null, .null]))] (wI_X4_init g h a1 a2) := by
  refine zMa_of (own := RX4) rfl (by decide +kernel) (Nat.le_of_ble_eq_true rfl) (lv := [(0, .ref h), (1, .ref a1), (2, .ref a2)]) rfl rfl ?_
  intro p e s m args below meth c A Q hQ cx hE hin
  refine z_aload_n cx dC_X4_init_0 1 rfl rfl 0 rfl ?_
  refine z_obj cx dC_X4_init_1 4 rfl qk_333 qk_56 qk_57 (Nat.le_of_ble_eq_true rfl) (Nat.le_of_ble_eq_true rfl) ?_
  refine z_aload_n cx dC_X4_init_4 5 rfl rfl 0 rfl ?_
  refine y_bipush cx dC_X4_init_5 7 rfl (by decide) ?_
  refine z_newa (ty := .int) (n := 10) (a0 := (10, .inl (wi (fun _ => 0)))) (W := fun p1 => ((h, .inr (4, [.null, .null, .null, .null, .null, .null])) :: ([(p1, .inl (g.2.1 0, 10, .inl (wi (fun _ => 0))))]))) cx 0 dC_X4_init_7 9 rfl qk_113 rfl rfl (fun _ _ h => h) (fun _ => rfl) (by decide) (by decide) (Nat.le_of_ble_eq_true rfl) (Nat.le_of_ble_eq_true rfl) (fun _ => rfl) (fun p1 => ?_)
  refine z_putF (q0 := 0) (ci := 4) (w' := ((h, .inr (4, [.null, .null, .ref p1, .null, .null, .null])) :: ([(p1, .inl (g.2.1 0, 10, .inl (wi (fun _ => 0))))]))) cx hin dC_X4_init_9 12 rfl rfl rfl zX4 tyX4_ok nmX4 2 (by decide) qk_336 rfl rfl rfl rfl rfl (Nat.le_of_ble_eq_true rfl) rfl ?_
  refine z_aload_n cx dC_X4_init_12 13 rfl rfl 0 rfl ?_
  refine y_bipush cx dC_X4_init_13 15 rfl (by decide) ?_
  refine z_newa (ty := .int) (n := 10) (a0 := (10, .inl (wi (fun _ => 0)))) (W := fun p2 => ((h, .inr (4, [.null, .null, .ref p1, .null, .null, .null])) :: ([(p1, .inl (g.2.1 0, 10, .inl (wi (fun _ => 0))))] ++ [(p2, .inl (g.2.1 0, 10, .inl (wi (fun _ => 0))))]))) cx 0 dC_X4_init_15 17 rfl qk_113 rfl rfl (fun _ _ h => h) (fun _ => rfl) (by decide) (by decide) (Nat.le_of_ble_eq_true rfl) (Nat.le_of_ble_eq_true rfl) (fun _ => rfl) (fun p2 => ?_)
  refine z_putF (q0 := 0) (ci := 4) (w' := ((h, .inr (4, [.null, .null, .ref p1, .ref p2, .null, .null])) :: ([(p1, .inl (g.2.1 0, 10, .inl (wi (fun _ => 0))))] ++ [(p2, .inl (g.2.1 0, 10, .inl (wi (fun _ => 0))))]))) cx hin dC_X4_init_17 20 rfl rfl rfl zX4 tyX4_ok nmX4 3 (by decide) qk_337 rfl rfl rfl rfl rfl (Nat.le_of_ble_eq_true rfl) rfl ?_
  refine z_aload_n cx dC_X4_init_20 21 rfl rfl 0 rfl ?_
  refine y_bipush cx dC_X4_init_21 23 rfl (by decide) ?_
  refine z_newa (ty := .int) (n := 10) (a0 := (10, .inl (wi (fun _ => 0)))) (W := fun p3 => ((h, .inr (4, [.null, .null, .ref p1, .ref p2, .null, .null])) :: ([(p1, .inl (g.2.1 0, 10, .inl (wi (fun _ => 0))))] ++ [(p2, .inl (g.2.1 0, 10, .inl (wi (fun _ => 0))))] ++ [(p3, .inl (g.2.1 0, 10, .inl (wi (fun _ => 0))))]))) cx 0 dC_X4_init_23 25 rfl qk_113 rfl rfl (fun _ _ h => h) (fun _ => rfl) (by decide) (by decide) (Nat.le_of_ble_eq_true rfl) (Nat.le_of_ble_eq_true rfl) (fun _ => rfl) (fun p3 => ?_)
  refine z_putF (q0 := 0) (ci := 4) (w' := ((h, .inr (4, [.null, .null, .ref p1, .ref p2, .ref p3, .null])) :: ([(p1, .inl (g.2.1 0, 10, .inl (wi (fun _ => 0))))] ++ [(p2, .inl (g.2.1 0, 10, .inl (wi (fun _ => 0))))] ++ [(p3, .inl (g.2.1 0, 10, .inl (wi (fun _ => 0))))]))) cx hin dC_X4_init_25 28 rfl rfl rfl zX4 tyX4_ok nmX4 4 (by decide) qk_338 rfl rfl rfl rfl rfl (Nat.le_of_ble_eq_true rfl) rfl ?_
  refine z_aload_n cx dC_X4_init_28 29 rfl rfl 0 rfl ?_
  refine y_bipush cx dC_X4_init_29 31 rfl (by decide) ?_
  refine z_newa (ty := .int) (n := 10) (a0 := (10, .inl (wi (fun _ => 0)))) (W := fun p4 => ((h, .inr (4, [.null, .null, .ref p1, .ref p2, .ref p3, .null])) :: ([(p1, .inl (g.2.1 0, 10, .inl (wi (fun _ => 0))))] ++ [(p2, .inl (g.2.1 0, 10, .inl (wi (fun _ => 0))))] ++ [(p3, .inl (g.2.1 0, 10, .inl (wi (fun _ => 0))))] ++ [(p4, .inl (g.2.1 0, 10, .inl (wi (fun _ => 0))))]))) cx 0 dC_X4_init_31 33 rfl qk_113 rfl rfl (fun _ _ h => h) (fun _ => rfl) (by decide) (by decide) (Nat.le_of_ble_eq_true rfl) (Nat.le_of_ble_eq_true rfl) (fun _ => rfl) (fun p4 => ?_)
  refine z_putF (q0 := 0) (ci := 4) (w' := ((h, .inr (4, [.null, .null, .ref p1, .ref p2, .ref p3, .ref p4])) :: ([(p1, .inl (g.2.1 0, 10, .inl (wi (fun _ => 0))))] ++ [(p2, .inl (g.2.1 0, 10, .inl (wi (fun _ => 0))))] ++ [(p3, .inl (g.2.1 0, 10, .inl (wi (fun _ => 0))))] ++ [(p4, .inl (g.2.1 0, 10, .inl (wi (fun _ => 0))))]))) cx hin dC_X4_init_33 36 rfl rfl rfl zX4 tyX4_ok nmX4 5 (by decide) qk_339 rfl rfl rfl rfl rfl (Nat.le_of_ble_eq_true rfl) rfl ?_
  refine z_aload_n cx dC_X4_init_36 37 rfl rfl 0 rfl ?_
  refine z_aload_n cx dC_X4_init_37 38 rfl rfl 1 rfl ?_
  refine z_putF (q0 := 0) (ci := 4) (w' := ((h, .inr (4, [.ref a1, .null, .ref p1, .ref p2, .ref p3, .ref p4])) :: ([(p1, .inl (g.2.1 0, 10, .inl (wi (fun _ => 0))))] ++ [(p2, .inl (g.2.1 0, 10, .inl (wi (fun _ => 0))))] ++ [(p3, .inl (g.2.1 0, 10, .inl (wi (fun _ => 0))))] ++ [(p4, .inl (g.2.1 0, 10, .inl (wi (fun _ => 0))))]))) cx hin dC_X4_init_38 41 rfl rfl rfl zX4 tyX4_ok nmX4 0 (by decide) qk_334 rfl rfl rfl rfl rfl (Nat.le_of_ble_eq_true rfl) rfl ?_
  refine z_aload_n cx dC_X4_init_41 42 rfl rfl 0 rfl ?_
  refine z_aload_n cx dC_X4_init_42 43 rfl rfl 2 rfl ?_
  refine z_putF (q0 := 0) (ci := 4) (w' := ((h, .inr (4, [.ref a1, .ref a2, .ref p1, .ref p2, .ref p3, .ref p4])) :: ([(p1, .inl (g.2.1 0, 10, .inl (wi (fun _ => 0))))] ++ [(p2, .inl (g.2.1 0, 10, .inl (wi (fun _ => 0))))] ++ [(p3, .inl (g.2.1 0, 10, .inl (wi (fun _ => 0))))] ++ [(p4, .inl (g.2.1 0, 10, .inl (wi (fun _ => 0))))]))) cx hin dC_X4_init_43 46 rfl rfl rfl zX4 tyX4_ok nmX4 1 (by decide) qk_335 rfl rfl rfl rfl rfl (Nat.le_of_ble_eq_true rfl) rfl ?_
  refine z_widen (k := 4) (n := 40) (Nat.le_of_ble_eq_true rfl) (Nat.le_of_ble_eq_true rfl) ?_
  subst hQ
  exact z_vretA (W9 := wI_X4_init g h a1 a2) cx dC_X4_init_46 (fun i => [p1, p2, p3, p4].getD i 0) rfl
set_option maxHeartbeats 4000000 in
theorem tC_X7_init {l : Launch} {ks : ZS} {g : ZG} {h a1 a2 : Nat} : zMa l ks yX7_init cX7_init 3 zC_X7_init g [.ref h, .ref a1, .ref a2] [(h, .inr (7, [.null, .null, .null, .null, .int 0, .int 0]))] (wI_X7_init g h a1 a2) := by
  refine zMa_of (own := RX7) rfl (by decide +kernel) (Nat.le_of_ble_eq_true rfl) (lv := [(0, .ref h), (1, .ref a1), (2, .ref a2)]) rfl rfl ?_
  intro p e s m args below meth c A Q hQ cx hE hin
  refine z_aload_n cx dC_X7_init_0 1 rfl rfl 0 rfl ?_
  refine z_obj cx dC_X7_init_1 4 rfl qk_358 qk_56 qk_57 (Nat.le_of_ble_eq_true rfl) (Nat.le_of_ble_eq_true rfl) ?_
  refine z_aload_n cx dC_X7_init_4 5 rfl rfl 0 rfl ?_
  refine y_sipush cx dC_X7_init_5 8 rfl (by decide) ?_
  refine z_newa (ty := .int) (n := 1024) (a0 := (1024, .inl (wi (fun _ => 0)))) (W := fun p1 => ((h, .inr (7, [.null, .null, .null, .null, .int 0, .int 0])) :: ([(p1, .inl (g.2.1 0, 1024, .inl (wi (fun _ => 0))))]))) cx 0 dC_X7_init_8 10 rfl qk_113 rfl rfl (fun _ _ h => h) (fun _ => rfl) (by decide) (by decide) (Nat.le_of_ble_eq_true rfl) (Nat.le_of_ble_eq_true rfl) (fun _ => rfl) (fun p1 => ?_)
  refine z_put (q0 := 0) (ci := 7) (w' := ((h, .inr (7, [.null, .null, .ref p1, .null, .int 0, .int 0])) :: ([(p1, .inl (g.2.1 0, 1024, .inl (wi (fun _ => 0))))]))) cx dC_X7_init_10 13 rfl rfl rfl zX7 tyX7_ok nmX7 2 (by decide) qk_361 rfl rfl rfl rfl (Nat.le_of_ble_eq_true rfl) rfl ?_
  refine z_aload_n cx dC_X7_init_13 14 rfl rfl 0 rfl ?_
  refine y_sipush cx dC_X7_init_14 17 rfl (by decide) ?_
  refine z_newa (ty := .int) (n := 1024) (a0 := (1024, .inl (wi (fun _ => 0)))) (W := fun p2 => ((h, .inr (7, [.null, .null, .ref p1, .null, .int 0, .int 0])) :: ([(p1, .inl (g.2.1 0, 1024, .inl (wi (fun _ => 0))))] ++ [(p2, .inl (g.2.1 0, 1024, .inl (wi (fun _ => 0))))]))) cx 0 dC_X7_init_17 19 rfl qk_113 rfl rfl (fun _ _ h => h) (fun _ => rfl) (by decide) (by decide) (Nat.le_of_ble_eq_true rfl) (Nat.le_of_ble_eq_true rfl) (fun _ => rfl) (fun p2 => ?_)
  refine z_put (q0 := 0) (ci := 7) (w' := ((h, .inr (7, [.null, .null, .ref p1, .ref p2, .int 0, .int 0])) :: ([(p1, .inl (g.2.1 0, 1024, .inl (wi (fun _ => 0))))] ++ [(p2, .inl (g.2.1 0, 1024, .inl (wi (fun _ => 0))))]))) cx dC_X7_init_19 22 rfl rfl rfl zX7 tyX7_ok nmX7 3 (by decide) qk_362 rfl rfl rfl rfl (Nat.le_of_ble_eq_true rfl) rfl ?_
  refine z_aload_n cx dC_X7_init_22 23 rfl rfl 0 rfl ?_
  refine z_aload_n cx dC_X7_init_23 24 rfl rfl 1 rfl ?_
  refine z_putF (q0 := 0) (ci := 7) (w' := ((h, .inr (7, [.ref a1, .null, .ref p1, .ref p2, .int 0, .int 0])) :: ([(p1, .inl (g.2.1 0, 1024, .inl (wi (fun _ => 0))))] ++ [(p2, .inl (g.2.1 0, 1024, .inl (wi (fun _ => 0))))]))) cx hin dC_X7_init_24 27 rfl rfl rfl zX7 tyX7_ok nmX7 0 (by decide) qk_359 rfl rfl rfl rfl rfl (Nat.le_of_ble_eq_true rfl) rfl ?_
  refine z_aload_n cx dC_X7_init_27 28 rfl rfl 0 rfl ?_
  refine z_aload_n cx dC_X7_init_28 29 rfl rfl 2 rfl ?_
  refine z_putF (q0 := 0) (ci := 7) (w' := ((h, .inr (7, [.ref a1, .ref a2, .ref p1, .ref p2, .int 0, .int 0])) :: ([(p1, .inl (g.2.1 0, 1024, .inl (wi (fun _ => 0))))] ++ [(p2, .inl (g.2.1 0, 1024, .inl (wi (fun _ => 0))))]))) cx hin dC_X7_init_29 32 rfl rfl rfl zX7 tyX7_ok nmX7 1 (by decide) qk_360 rfl rfl rfl rfl rfl (Nat.le_of_ble_eq_true rfl) rfl ?_
  refine z_widen (k := 2) (n := 2048) (Nat.le_of_ble_eq_true rfl) (Nat.le_of_ble_eq_true rfl) ?_
  subst hQ
  exact z_vretA (W9 := wI_X7_init g h a1 a2) cx dC_X7_init_32 (fun i => [p1, p2].getD i 0) rfl
set_option maxHeartbeats 4000000 in
theorem tC_X6_init {l : Launch} {ks : ZS} {g : ZG} {h a1 : Nat} : zMa l ks yX6_init cX6_init 2 zC_X6_init g [.ref h, .ref a1] [(h, .inr (6, [.null, .null]))] (wI_X6_init g h a1) := by
  refine zMa_of (own := RX6) rfl (by decide +kernel) (Nat.le_of_ble_eq_true rfl) (lv := [(0, .ref h), (1, .ref a1)]) rfl rfl ?_
  intro p e s m args below meth c A Q hQ cx hE hin
  refine z_aload_n cx dC_X6_init_0 1 rfl rfl 0 rfl ?_
  refine z_obj cx dC_X6_init_1 4 rfl qk_383 qk_56 qk_57 (Nat.le_of_ble_eq_true rfl) (Nat.le_of_ble_eq_true rfl) ?_
  refine z_aload_n cx dC_X6_init_4 5 rfl rfl 0 rfl ?_
  refine y_sipush cx dC_X6_init_5 8 rfl (by decide) ?_
  refine z_newa (ty := .int) (n := 1024) (a0 := (1024, .inl (wi (fun _ => 0)))) (W := fun p1 => ((h, .inr (6, [.null, .null])) :: ([(p1, .inl (g.2.1 0, 1024, .inl (wi (fun _ => 0))))]))) cx 0 dC_X6_init_8 10 rfl qk_113 rfl rfl (fun _ _ h => h) (fun _ => rfl) (by decide) (by decide) (Nat.le_of_ble_eq_true rfl) (Nat.le_of_ble_eq_true rfl) (fun _ => rfl) (fun p1 => ?_)
  refine z_putF (q0 := 0) (ci := 6) (w' := ((h, .inr (6, [.null, .ref p1])) :: ([(p1, .inl (g.2.1 0, 1024, .inl (wi (fun _ => 0))))]))) cx hin dC_X6_init_10 13 rfl rfl rfl zX6 tyX6_ok nmX6 1 (by decide) qk_385 rfl rfl rfl rfl rfl (Nat.le_of_ble_eq_true rfl) rfl ?_
  refine z_aload_n cx dC_X6_init_13 14 rfl rfl 0 rfl ?_
  refine z_aload_n cx dC_X6_init_14 15 rfl rfl 1 rfl ?_
  refine z_putF (q0 := 0) (ci := 6) (w' := ((h, .inr (6, [.ref a1, .ref p1])) :: ([(p1, .inl (g.2.1 0, 1024, .inl (wi (fun _ => 0))))]))) cx hin dC_X6_init_15 18 rfl rfl rfl zX6 tyX6_ok nmX6 0 (by decide) qk_384 rfl rfl rfl rfl rfl (Nat.le_of_ble_eq_true rfl) rfl ?_
  refine z_widen (k := 1) (n := 1024) (Nat.le_of_ble_eq_true rfl) (Nat.le_of_ble_eq_true rfl) ?_
  subst hQ
  exact z_vretA (W9 := wI_X6_init g h a1) cx dC_X6_init_18 (fun i => [p1].getD i 0) rfl
set_option maxHeartbeats 4000000 in
theorem tC_X2_init {l : Launch} {ks : ZS} {g : ZG} {h a1 : Nat} : zMa l ks yX2_init cX2_init 2 zC_X2_init g [.ref h, .ref a1] [(h, .inr (2, [.null, .null, .null]))] (wI_X2_init g h a1) := by
  refine zMa_of (own := RX2) rfl (by decide +kernel) (Nat.le_of_ble_eq_true rfl) (lv := [(0, .ref h), (1, .ref a1)]) rfl rfl ?_
  intro p e s m args below meth c A Q hQ cx hE hin
  refine z_aload_n cx dC_X2_init_0 1 rfl rfl 0 rfl ?_
  refine z_obj cx dC_X2_init_1 4 rfl qk_396 qk_56 qk_57 (Nat.le_of_ble_eq_true rfl) (Nat.le_of_ble_eq_true rfl) ?_
  refine z_aload_n cx dC_X2_init_4 5 rfl rfl 0 rfl ?_
  refine y_bipush cx dC_X2_init_5 7 rfl (by decide) ?_
  refine z_newa (ty := .int) (n := 10) (a0 := (10, .inl (wi (fun _ => 0)))) (W := fun p1 => ((h, .inr (2, [.null, .null, .null])) :: ([(p1, .inl (g.2.1 0, 10, .inl (wi (fun _ => 0))))]))) cx 0 dC_X2_init_7 9 rfl qk_113 rfl rfl (fun _ _ h => h) (fun _ => rfl) (by decide) (by decide) (Nat.le_of_ble_eq_true rfl) (Nat.le_of_ble_eq_true rfl) (fun _ => rfl) (fun p1 => ?_)
  refine z_putF (q0 := 0) (ci := 2) (w' := ((h, .inr (2, [.null, .ref p1, .null])) :: ([(p1, .inl (g.2.1 0, 10, .inl (wi (fun _ => 0))))]))) cx hin dC_X2_init_9 12 rfl rfl rfl zX2 tyX2_ok nmX2 1 (by decide) qk_398 rfl rfl rfl rfl rfl (Nat.le_of_ble_eq_true rfl) rfl ?_
  refine z_aload_n cx dC_X2_init_12 13 rfl rfl 0 rfl ?_
  refine y_bipush cx dC_X2_init_13 15 rfl (by decide) ?_
  refine z_newa (ty := .int) (n := 10) (a0 := (10, .inl (wi (fun _ => 0)))) (W := fun p2 => ((h, .inr (2, [.null, .ref p1, .null])) :: ([(p1, .inl (g.2.1 0, 10, .inl (wi (fun _ => 0))))] ++ [(p2, .inl (g.2.1 0, 10, .inl (wi (fun _ => 0))))]))) cx 0 dC_X2_init_15 17 rfl qk_113 rfl rfl (fun _ _ h => h) (fun _ => rfl) (by decide) (by decide) (Nat.le_of_ble_eq_true rfl) (Nat.le_of_ble_eq_true rfl) (fun _ => rfl) (fun p2 => ?_)
  refine z_putF (q0 := 0) (ci := 2) (w' := ((h, .inr (2, [.null, .ref p1, .ref p2])) :: ([(p1, .inl (g.2.1 0, 10, .inl (wi (fun _ => 0))))] ++ [(p2, .inl (g.2.1 0, 10, .inl (wi (fun _ => 0))))]))) cx hin dC_X2_init_17 20 rfl rfl rfl zX2 tyX2_ok nmX2 2 (by decide) qk_399 rfl rfl rfl rfl rfl (Nat.le_of_ble_eq_true rfl) rfl ?_
  refine z_aload_n cx dC_X2_init_20 21 rfl rfl 0 rfl ?_
  refine z_aload_n cx dC_X2_init_21 22 rfl rfl 1 rfl ?_
  refine z_putF (q0 := 0) (ci := 2) (w' := ((h, .inr (2, [.ref a1, .ref p1, .ref p2])) :: ([(p1, .inl (g.2.1 0, 10, .inl (wi (fun _ => 0))))] ++ [(p2, .inl (g.2.1 0, 10, .inl (wi (fun _ => 0))))]))) cx hin dC_X2_init_22 25 rfl rfl rfl zX2 tyX2_ok nmX2 0 (by decide) qk_397 rfl rfl rfl rfl rfl (Nat.le_of_ble_eq_true rfl) rfl ?_
  refine z_widen (k := 2) (n := 20) (Nat.le_of_ble_eq_true rfl) (Nat.le_of_ble_eq_true rfl) ?_
  subst hQ
  exact z_vretA (W9 := wI_X2_init g h a1) cx dC_X2_init_25 (fun i => [p1, p2].getD i 0) rfl
set_option maxHeartbeats 4000000 in
theorem tC_X3_init {l : Launch} {ks : ZS} {g : ZG} {h a1 a2 : Nat} : zMa l ks yX3_init cX3_init 3 zC_X3_init g [.ref h, .ref a1, .ref a2] [(h, .inr (3, [.null, .null, .null, .null, .int 0, .int 0, .int 0]))] (wI_X3_init g h a1 a2) := by
  refine zMa_of (own := RX3) rfl (by decide +kernel) (Nat.le_of_ble_eq_true rfl) (lv := [(0, .ref h), (1, .ref a1), (2, .ref a2)]) rfl rfl ?_
  intro p e s m args below meth c A Q hQ cx hE hin
  refine z_aload_n cx dC_X3_init_0 1 rfl rfl 0 rfl ?_
  refine z_obj cx dC_X3_init_1 4 rfl qk_412 qk_56 qk_57 (Nat.le_of_ble_eq_true rfl) (Nat.le_of_ble_eq_true rfl) ?_
  refine z_aload_n cx dC_X3_init_4 5 rfl rfl 0 rfl ?_
  refine y_iconst cx dC_X3_init_5 6 rfl ?_
  refine z_newa (ty := .int) (n := 2) (a0 := (2, .inl (wi (fun _ => 0)))) (W := fun p1 => ((h, .inr (3, [.null, .null, .null, .null, .int 0, .int 0, .int 0])) :: ([(p1, .inl (g.2.1 0, 2, .inl (wi (fun _ => 0))))]))) cx 0 dC_X3_init_6 8 rfl qk_113 rfl rfl (fun _ _ h => h) (fun _ => rfl) (by decide) (by decide) (Nat.le_of_ble_eq_true rfl) (Nat.le_of_ble_eq_true rfl) (fun _ => rfl) (fun p1 => ?_)
  refine z_putF (q0 := 0) (ci := 3) (w' := ((h, .inr (3, [.null, .null, .ref p1, .null, .int 0, .int 0, .int 0])) :: ([(p1, .inl (g.2.1 0, 2, .inl (wi (fun _ => 0))))]))) cx hin dC_X3_init_8 11 rfl rfl rfl zX3 tyX3_ok nmX3 2 (by decide) qk_415 rfl rfl rfl rfl rfl (Nat.le_of_ble_eq_true rfl) rfl ?_
  refine z_aload_n cx dC_X3_init_11 12 rfl rfl 0 rfl ?_
  refine y_bipush cx dC_X3_init_12 14 rfl (by decide) ?_
  refine z_newa (ty := .int) (n := 24) (a0 := (24, .inl (wi (fun _ => 0)))) (W := fun p2 => ((h, .inr (3, [.null, .null, .ref p1, .null, .int 0, .int 0, .int 0])) :: ([(p1, .inl (g.2.1 0, 2, .inl (wi (fun _ => 0))))] ++ [(p2, .inl (g.2.1 0, 24, .inl (wi (fun _ => 0))))]))) cx 0 dC_X3_init_14 16 rfl qk_113 rfl rfl (fun _ _ h => h) (fun _ => rfl) (by decide) (by decide) (Nat.le_of_ble_eq_true rfl) (Nat.le_of_ble_eq_true rfl) (fun _ => rfl) (fun p2 => ?_)
  refine z_putF (q0 := 0) (ci := 3) (w' := ((h, .inr (3, [.null, .null, .ref p1, .ref p2, .int 0, .int 0, .int 0])) :: ([(p1, .inl (g.2.1 0, 2, .inl (wi (fun _ => 0))))] ++ [(p2, .inl (g.2.1 0, 24, .inl (wi (fun _ => 0))))]))) cx hin dC_X3_init_16 19 rfl rfl rfl zX3 tyX3_ok nmX3 3 (by decide) qk_416 rfl rfl rfl rfl rfl (Nat.le_of_ble_eq_true rfl) rfl ?_
  refine z_aload_n cx dC_X3_init_19 20 rfl rfl 0 rfl ?_
  refine z_aload_n cx dC_X3_init_20 21 rfl rfl 1 rfl ?_
  refine z_putF (q0 := 0) (ci := 3) (w' := ((h, .inr (3, [.ref a1, .null, .ref p1, .ref p2, .int 0, .int 0, .int 0])) :: ([(p1, .inl (g.2.1 0, 2, .inl (wi (fun _ => 0))))] ++ [(p2, .inl (g.2.1 0, 24, .inl (wi (fun _ => 0))))]))) cx hin dC_X3_init_21 24 rfl rfl rfl zX3 tyX3_ok nmX3 0 (by decide) qk_413 rfl rfl rfl rfl rfl (Nat.le_of_ble_eq_true rfl) rfl ?_
  refine z_aload_n cx dC_X3_init_24 25 rfl rfl 0 rfl ?_
  refine z_aload_n cx dC_X3_init_25 26 rfl rfl 2 rfl ?_
  refine z_putF (q0 := 0) (ci := 3) (w' := ((h, .inr (3, [.ref a1, .ref a2, .ref p1, .ref p2, .int 0, .int 0, .int 0])) :: ([(p1, .inl (g.2.1 0, 2, .inl (wi (fun _ => 0))))] ++ [(p2, .inl (g.2.1 0, 24, .inl (wi (fun _ => 0))))]))) cx hin dC_X3_init_26 29 rfl rfl rfl zX3 tyX3_ok nmX3 1 (by decide) qk_414 rfl rfl rfl rfl rfl (Nat.le_of_ble_eq_true rfl) rfl ?_
  refine z_widen (k := 2) (n := 26) (Nat.le_of_ble_eq_true rfl) (Nat.le_of_ble_eq_true rfl) ?_
  subst hQ
  exact z_vretA (W9 := wI_X3_init g h a1 a2) cx dC_X3_init_29 (fun i => [p1, p2].getD i 0) rfl
