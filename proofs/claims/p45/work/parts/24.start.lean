-- needs: 23.facts
theorem dW_0 : decode code 0 = .ok (.new 24, 3) := by decide +kernel
theorem dW_3 : decode code 3 = .ok (.dup, 1) := by decide +kernel
theorem dW_4 : decode code 4 = .ok (.invokespecial 141, 3) := by decide +kernel
theorem dW_7 : decode code 7 = .ok (.astore_n 1, 1) := by decide +kernel
theorem dW_8 : decode code 8 = .ok (.bipush 64, 2) := by decide +kernel
theorem dW_10 : decode code 10 = .ok (.newarray .int, 2) := by decide +kernel
theorem dW_12 : decode code 12 = .ok (.astore_n 2, 1) := by decide +kernel
theorem dW_13 : decode code 13 = .ok (.bipush 96, 2) := by decide +kernel
theorem dW_15 : decode code 15 = .ok (.newarray .int, 2) := by decide +kernel
theorem dW_17 : decode code 17 = .ok (.astore_n 3, 1) := by decide +kernel
theorem dW_18 : decode code 18 = .ok (.iconst 1, 1) := by decide +kernel
theorem dW_19 : decode code 19 = .ok (.newarray .int, 2) := by decide +kernel
theorem dW_21 : decode code 21 = .ok (.dup, 1) := by decide +kernel
theorem dW_22 : decode code 22 = .ok (.iconst 0, 1) := by decide +kernel
theorem dW_23 : decode code 23 = .ok (.aload_n 0, 1) := by decide +kernel
theorem dW_24 : decode code 24 = .ok (.arraylength, 1) := by decide +kernel
theorem dW_25 : decode code 25 = .ok (.ifCond .ne 7, 3) := by decide +kernel
theorem dW_28 : decode code 28 = .ok (.iconst 5, 1) := by decide +kernel
theorem dW_29 : decode code 29 = .ok (.goto 6, 3) := by decide +kernel
theorem dW_32 : decode code 32 = .ok (.aload_n 0, 1) := by decide +kernel
theorem dW_33 : decode code 33 = .ok (.iconst 0, 1) := by decide +kernel
theorem dW_34 : decode code 34 = .ok (.iaload, 1) := by decide +kernel
theorem dW_35 : decode code 35 = .ok (.iastore, 1) := by decide +kernel
theorem dW_36 : decode code 36 = .ok (.astore 4, 2) := by decide +kernel
theorem dW_508 : decode code 508 = .ok (.ireturn, 1) := by decide +kernel
set_option maxHeartbeats 80000000 in
theorem lawStart {p : Program} {l : Launch} {e : Env} {s : State} {m : MethodId} {args : Array Value} {below : List Frame} {meth : Method} {c : Code} {A : Nat → Prop} {g : ZG} {Q : State → Prop} {ks : ZS} {b L : Nat} {xs : Nat → Int32} (cx : zC p s m args meth c code "ForestPacksLaw" 12 A s.heap g ret) (hE : zE ks A s) (hl9 : l.stackTraces = false) (hX : va_X b L xs s s.heap) (hbl : b < s.heap.size) (hbA : ¬ A b) (hL : L ≤ 260) (hlaw : ∀ (z : Int) (p1 p2 : Nat), fL_law zNet0B iZ iRd zNet0B iAc iZ iPS (iZ, p1, p2) (iLa z) L xs = some ()) (done : ∀ (w : va_W) (nc ns : Nat) (lv : List (Nat × Value)), nc ≤ room_1.cells → ns ≤ room_1.slots → V p l e room_1 s m args below meth c A s.heap g 12 Q w nc ns lv 508 [.int (zI 1)]) : V p l e room_1 s m args below meth c A s.heap g 12 Q [] 0 0 [(0, .ref b)] 0 [] := by
  refine z_new (ci := 11) (fs := [.null, .null, .null, .null, .null, .null, .null, .null, .null, .null, .null, .null, .int 0]) (W := fun h => [(h, .inr (11, [.null, .null, .null, .null, .null, .null, .null, .null, .null, .null, .null, .null, .int 0]))]) cx dW_0 3 rfl qt_50 zX11 tyX11 tyX11_ok qt_51 qt_27 rfl (fun j hj => by match j, hj with | 0, _ => rfl | 1, _ => rfl | 2, _ => rfl | 3, _ => rfl | 4, _ => rfl | 5, _ => rfl | 6, _ => rfl | 7, _ => rfl | 8, _ => rfl | 9, _ => rfl | 10, _ => rfl | 11, _ => rfl | 12, _ => rfl | j + 13, hj => exact absurd hj (by omega)) (Nat.le_of_ble_eq_true rfl) (Nat.le_of_ble_eq_true rfl) (fun _ => rfl) (fun hx => ?_)
  refine z_dup cx dW_3 4 rfl rfl ?_
  refine z_callI (As := []) (rest := [.ref hx]) (wr := []) (wc := [(hx, .inr (11, [.null, .null, .null, .null, .null, .null, .null, .null, .null, .null, .null, .null, .int 0]))]) (W := fun q => wI_X11_init g hx q) (W' := fun q => wI_X11_init g hx q) cx hE tC_X11_init dW_4 7 rfl kC_X11_init qt_52 qt_53 rfl rfl ⟨Nat.le_of_ble_eq_true rfl, Nat.le_of_ble_eq_true rfl⟩ rfl rfl (Nat.le_of_ble_eq_true rfl) ⟨Nat.le_of_ble_eq_true rfl, Nat.le_of_ble_eq_true rfl⟩ (fun _ => rfl) (fun qx => ?_)
  refine z_astore_n cx dW_7 8 rfl rfl (by decide) (lv' := [(1, .ref hx), (0, .ref b)]) rfl rfl ?_
  refine y_bipush cx dW_8 10 rfl (by decide) ?_
  refine z_newa (ty := .int) (n := 64) (a0 := (64, .inl (wi (fun _ => 0)))) (W := fun t9 => wI_X11_init g hx qx ++ [(t9, .inl (g.2.1 0, 64, .inl (wi (fun _ => 0))))]) cx 0 dW_10 12 rfl qt_113 rfl rfl (fun _ _ h => h) (fun _ => rfl) (by decide) (by decide) (Nat.le_of_ble_eq_true rfl) (Nat.le_of_ble_eq_true rfl) (fun _ => rfl) (fun t9 => ?_)
  refine z_astore_n cx dW_12 13 rfl rfl (by decide) (lv' := [(2, .ref t9), (1, .ref hx), (0, .ref b)]) rfl rfl ?_
  refine y_bipush cx dW_13 15 rfl (by decide) ?_
  refine z_newa (ty := .int) (n := 96) (a0 := (96, .inl (wi (fun _ => 0)))) (W := fun v9 => wI_X11_init g hx qx ++ [(t9, .inl (g.2.1 0, 64, .inl (wi (fun _ => 0))))] ++ [(v9, .inl (g.2.1 0, 96, .inl (wi (fun _ => 0))))]) cx 0 dW_15 17 rfl qt_113 rfl rfl (fun _ _ h => h) (fun _ => rfl) (by decide) (by decide) (Nat.le_of_ble_eq_true rfl) (Nat.le_of_ble_eq_true rfl) (fun _ => rfl) (fun v9 => ?_)
  refine z_astore_n cx dW_17 18 rfl rfl (by decide) (lv' := [(3, .ref v9), (2, .ref t9), (1, .ref hx), (0, .ref b)]) rfl rfl ?_
  refine y_iconst cx dW_18 19 rfl ?_
  refine z_newa (ty := .int) (n := 1) (a0 := (1, .inl (wi (fun _ => 0)))) (W := fun h9 => wI_X11_init g hx qx ++ [(t9, .inl (g.2.1 0, 64, .inl (wi (fun _ => 0))))] ++ [(v9, .inl (g.2.1 0, 96, .inl (wi (fun _ => 0))))] ++ [(h9, .inl (g.2.1 0, 1, .inl (wi (fun _ => 0))))]) cx 0 dW_19 21 rfl qt_113 rfl rfl (fun _ _ h => h) (fun _ => rfl) (by decide) (by decide) (Nat.le_of_ble_eq_true rfl) (Nat.le_of_ble_eq_true rfl) (fun _ => rfl) (fun h9 => ?_)
  refine z_dup cx dW_21 22 rfl rfl ?_
  refine y_iconst cx dW_22 23 rfl ?_
  refine z_widen (k := 200) (n := 8000) (Nat.le_of_ble_eq_true rfl) (Nat.le_of_ble_eq_true rfl) ?_
  have go : ∀ z : Int, V p l e room_1 s m args below meth c A s.heap g 12 Q (wI_X11_init g hx qx ++ [(t9, .inl (g.2.1 0, 64, .inl (wi (fun _ => 0))))] ++ [(v9, .inl (g.2.1 0, 96, .inl (wi (fun _ => 0))))] ++ [(h9, .inl (g.2.1 0, 1, .inl (wi (fun _ => 0))))]) 200 8000 [(3, .ref v9), (2, .ref t9), (1, .ref hx), (0, .ref b)] 35 [.int (zI z), .int (zI 0), .ref h9, .ref h9] := by
    intro z
    refine z_perm (List.perm_append_comm (l₁ := wI_X11_init g hx qx ++ [(t9, .inl (g.2.1 0, 64, .inl (wi (fun _ => 0))))] ++ [(v9, .inl (g.2.1 0, 96, .inl (wi (fun _ => 0))))])) ?_
    refine z_iast (q0 := 0) (n := 1) (i := zI 0) (x := zI z) (w' := [(h9, .inl (g.2.1 0, 1, .inl (wi (up (fun _ => 0) 0 z))))] ++ (wI_X11_init g hx qx ++ [(t9, .inl (g.2.1 0, 64, .inl (wi (fun _ => 0))))] ++ [(v9, .inl (g.2.1 0, 96, .inl (wi (fun _ => 0))))])) cx dW_35 36 rfl rfl (zin_I (i := 0) (by decide) (by decide)) (by rw [ztn (i := 0) (n := 1) (by decide) (by decide), wi_up]; rfl) ?_
    refine z_perm List.perm_append_comm ?_
    refine z_astore cx dW_36 38 rfl (by decide) (lv' := [(4, .ref h9), (3, .ref v9), (2, .ref t9), (1, .ref hx), (0, .ref b)]) rfl rfl ?_
    refine z_sub [4, 3, 2, 1, 0] rfl ?_
    simp only [wI_X5_init, wI_X10_init, wI_X9_init, wI_X0_init, wI_X1_init, wI_X8_init, wI_X4_init, wI_X7_init, wI_X6_init, wI_X2_init, wI_X3_init, wI_X11_init, List.cons_append, List.nil_append, List.append_assoc, Nat.reduceAdd]
    obtain ⟨adx, hadx⟩ : ∃ ad : Nat → Nat, ad = fun i => [hx, qx 0, qx 1, qx 2, qx 3, qx 4, qx 5, qx 6, qx 7, qx 13, qx 8, qx 9, qx 10, qx 11, qx 12, qx 14, qx 15, qx 16, qx 17, qx 18, qx 19, qx 20, qx 21, qx 22, qx 23, qx 24, qx 25, qx 26, qx 27, qx 28, qx 29, qx 30, qx 31, qx 32, qx 33, qx 34, qx 35, qx 36, qx 37, qx 38, qx 39, qx 40, qx 41, qx 42, qx 43, qx 44, qx 45, qx 46, qx 47, qx 48, qx 49, qx 50, qx 51, qx 52, qx 53, qx 54, qx 55, qx 56, qx 57, qx 58, qx 59, qx 60, qx 61, qx 62, qx 63, qx 64, qx 65, qx 66, qx 67, qx 68, qx 69, qx 70, qx 71, qx 72, qx 73, qx 74, qx 75, qx 76, qx 77, qx 78, 0, 0, qx 81, qx 82, qx 83, qx 84, qx 85, qx 86, qx 87, qx 88, qx 89, t9, v9, h9].getD i 0 := ⟨_, rfl⟩
    refine z_arrq (q0 := 16) (f9 := fun j => some (adx (17 + 5 * j))) rfl (fun j hj => by subst hadx; rcases (show j = 0 ∨ j = 1 ∨ j = 2 ∨ j = 3 ∨ j = 4 ∨ j = 5 ∨ j = 6 ∨ j = 7 ∨ j = 8 by omega) with rfl | rfl | rfl | rfl | rfl | rfl | rfl | rfl | rfl <;> rfl) rfl ?_
    refine z_arrq (q0 := 90) (f9 := fun j => if j = 0 then Option.map (fun q : (Nat → Nat) × ZB => q.1 0) (none : ZO) else if j = 1 then Option.map (fun q : (Nat → Nat) × ZB => q.1 0) (none : ZO) else none) rfl (fun j hj => by rcases (show j = 0 ∨ j = 1 by omega) with rfl | rfl <;> rfl) rfl ?_
    refine z_pick (w' := wX (g.1, g.2.1, adx) iZ zNet0B iZ iRd zNet0B iAc iZ iPS iZ (iZ, qx 79, qx 80) iZ iZ iZ none none (iLa z)) [0, 1, 2, 3, 4, 5, 6, 7, 8, 14, 9, 10, 11, 12, 13, 15, 16, 17, 18, 19, 20, 21, 22, 23, 24, 25, 26, 27, 28, 29, 30, 31, 32, 33, 34, 35, 36, 37, 38, 39, 40, 41, 42, 43, 44, 45, 46, 47, 48, 49, 50, 51, 52, 53, 54, 55, 56, 57, 58, 59, 60, 61, 62, 63, 64, 65, 66, 67, 68, 69, 70, 71, 72, 73, 74, 75, 76, 77, 78, 79, 80, 81, 82, 83, 84, 85, 86, 87, 88, 89, 90, 91, 92, 93] (by decide) (by subst hadx; rfl) (by subst hadx; rfl) ?_
    have e1 : adx 0 = hx := by subst hadx; rfl
    have e2 : adx 91 = t9 := by subst hadx; rfl
    have e3 : adx 92 = v9 := by subst hadx; rfl
    have e4 : adx 93 = h9 := by subst hadx; rfl
    rw [← e1, ← e2, ← e3, ← e4]
    exact tL_law (g := (g.1, g.2.1, adx)) cx hE hl9 hX hbl hbA (by omega) (Nat.le_of_ble_eq_true rfl) (Nat.le_of_ble_eq_true rfl) done (hlaw z _ _)
  refine z_aload_n cx dW_23 24 rfl rfl 3 rfl ?_
  refine z_slen cx hX hbl hbA dW_24 25 rfl ?_
  refine z_if_ne cx dW_25 28 rfl 32 (by decide) (fun hz => ?_) (fun hz => ?_)
  · have hp : 0 < L := Nat.pos_of_ne_zero (fun e9 => hz (by rw [e9]; rfl))
    refine z_aload_n cx dW_32 33 rfl rfl 3 rfl ?_
    refine y_iconst cx dW_33 34 rfl ?_
    refine z_sld cx hX hbl hbA ⟨by decide, by omega⟩ (by omega) dW_34 35 rfl ?_
    exact go _
  · refine y_iconst cx dW_28 29 rfl ?_
    refine z_goto cx dW_29 35 (by decide) ?_
    exact go 5
