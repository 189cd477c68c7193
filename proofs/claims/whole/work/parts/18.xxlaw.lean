-- needs: 18.xwrap
theorem qw_1259 : Cond.codeWith yL_line method_3_code 5 (some .int) [(0, 10, 13, 13)] ∈ zT := zin 1259 (by decide +kernel) (by decide +kernel)
theorem dL_line_0 : decode method_3_code 0 = .ok (.aload_n 3, 1) := by decide +kernel
theorem dL_line_1 : decode method_3_code 1 = .ok (.iconst 0, 1) := by decide +kernel
theorem dL_line_2 : decode method_3_code 2 = .ok (.aload_n 0, 1) := by decide +kernel
theorem dL_line_3 : decode method_3_code 3 = .ok (.iload_n 1, 1) := by decide +kernel
theorem dL_line_4 : decode method_3_code 4 = .ok (.iload_n 2, 1) := by decide +kernel
theorem dL_line_5 : decode method_3_code 5 = .ok (.invokevirtual 7, 3) := by decide +kernel
theorem dL_line_8 : decode method_3_code 8 = .ok (.i2l, 1) := by decide +kernel
theorem dL_line_9 : decode method_3_code 9 = .ok (.lastore, 1) := by decide +kernel
theorem dL_line_10 : decode method_3_code 10 = .ok (.goto 7, 3) := by decide +kernel
theorem dL_line_13 : decode method_3_code 13 = .ok (.astore 4, 2) := by decide +kernel
theorem dL_line_15 : decode method_3_code 15 = .ok (.iconst 1, 1) := by decide +kernel
theorem dL_line_16 : decode method_3_code 16 = .ok (.ireturn, 1) := by decide +kernel
theorem dL_line_17 : decode method_3_code 17 = .ok (.iconst 0, 1) := by decide +kernel
theorem dL_line_18 : decode method_3_code 18 = .ok (.ireturn, 1) := by decide +kernel
def zrL_line : Room := { frames := 8, cells := 1, slots := 6, locals := 200 }
theorem qw_112 : Cond.initialized "ForestPacks" ∈ zT := zin 112 (by decide +kernel) (by decide +kernel)
theorem qw_1260 : Cond.classLink "ForestPacksLaw" 13 "java/util/NoSuchElementException" ∈ zT := zin 1260 (by decide +kernel) (by decide +kernel)
theorem qw_1261 : Cond.methodLink "ForestPacksLaw" 7 yX11_line ∈ zT := zin 1261 (by decide +kernel) (by decide +kernel)
theorem qw_1262 : Cond.instanceMethod yX11_line ∈ zT := zin 1262 (by decide +kernel) (by decide +kernel)
theorem qw_1263 : Cond.selects "ForestPacks" yX11_line yX11_line ∈ zT := zin 1263 (by decide +kernel) (by decide +kernel)
theorem qw_1264 : Cond.code yX11_line prog_1_method_7_code 3 (some .int) ∈ zT := zin 1264 (by decide +kernel) (by decide +kernel)
theorem qw_1333 : Cond.methodLink "ForestPacksLaw" 15 yX11_ring ∈ zT := zin 1333 (by decide +kernel) (by decide +kernel)
theorem qw_1334 : Cond.instanceMethod yX11_ring ∈ zT := zin 1334 (by decide +kernel) (by decide +kernel)
theorem qw_1335 : Cond.selects "ForestPacks" yX11_ring yX11_ring ∈ zT := zin 1335 (by decide +kernel) (by decide +kernel)
theorem qw_1336 : Cond.code yX11_ring prog_1_method_8_code 3 (some .int) ∈ zT := zin 1336 (by decide +kernel) (by decide +kernel)
theorem kL_line : zK yX11_line cX11_line 3 (some .int) 2 := ⟨qw_1264, qw_112, by decide +kernel, by decide +kernel, by decide +kernel⟩
set_option maxHeartbeats 4000000 in
theorem tL_line {l : Launch} {ks : ZS} {g : ZG} {ad : Nat → Nat} {o9 : Nat} {f : Nat → Int} {X : ZB} {N : ZB} {T : ZB} {Rd : ZB} {Fr : ZB} {Ac : ZA} {Ch : ZB} {PS : ZB} {Ly : ZB} {Pa : ZQ} {OT : ZB} {Ea : ZB} {Ga : ZB} {Im0 : ZO} {Im1 : ZO} {a1 a2 : Int} {r : Int × Int} (h : fX_line N a1 a2 = some r) (hl9 : l.stackTraces = false) : zMw l ks yL_line method_3_code 5 [(0, 10, 13, 13)] zrL_line g [.ref (ad 0), .int (zI a1), .int (zI a2), .ref o9] (wX (g.1, g.2.1, ad) X N T Rd Fr Ac Ch PS Ly Pa OT Ea Ga Im0 Im1 ++ [(o9, .inl (g.2.1 1, 1, .inr (.inl (wj (f)))))]) (wX (g.1, g.2.1, ad) X N T Rd Fr Ac Ch PS Ly Pa OT Ea Ga Im0 Im1 ++ [(o9, .inl (g.2.1 1, 1, .inr (.inl (wj (if r.1 = 0 then up f 0 (nm r.2) else f)))))]) (zI r.1) := by
  refine zMw_of (own := "ForestPacksLaw") rfl (by decide +kernel) (Nat.le_of_ble_eq_true rfl) (lv := [(0, .ref (ad 0)), (1, .int (zI a1)), (2, .int (zI a2)), (3, .ref o9)]) rfl ?_
  intro p e s m args below meth c A Q hQ cx hE htab
  refine z_aload_n cx dL_line_0 1 rfl rfl 3 rfl ?_
  refine y_iconst cx dL_line_1 2 rfl ?_
  refine z_aload_n cx dL_line_2 3 rfl rfl 0 rfl ?_
  refine z_iload_n cx dL_line_3 4 rfl rfl 1 rfl ?_
  refine z_iload_n cx dL_line_4 5 rfl rfl 2 rfl ?_
  refine z_callX (As := [.int (zI a1), .int (zI a2)]) (rest := [.int (zI 0), .ref o9]) (wr := [(o9, .inl (g.2.1 1, 1, .inr (.inl (wj (f)))))]) cx hE (tX_line (g := (g.1, g.2.1, ad)) h hl9) dL_line_5 8 rfl kL_line qw_1261 qw_1262 qw_1263 rfl e_X rfl rfl ⟨Nat.le_of_ble_eq_true rfl, Nat.le_of_ble_eq_true rfl⟩ rfl rfl (Nat.le_of_ble_eq_true rfl) ⟨Nat.le_of_ble_eq_true rfl, Nat.le_of_ble_eq_true rfl⟩ ⟨0, 10, 13, 13⟩ htab (by decide) (by decide) qw_1260 (fun hk => ?_) (fun hk q => ?_)
  · refine y_i2l cx dL_line_8 9 rfl ?_
    refine z_lout (wr := wX (g.1, g.2.1, ad) X N T Rd Fr Ac Ch PS Ly Pa OT Ea Ga Im0 Im1) cx dL_line_9 10 rfl rfl ?_
    refine z_goto cx dL_line_10 17 (by decide) ?_
    refine y_iconst cx dL_line_17 18 rfl ?_
    subst hQ
    exact z_iret cx dL_line_18 (by rw [hk]) (by rw [hk]; rfl)
  · refine z_astore (x := q) cx dL_line_13 15 rfl (by decide) (lv' := [(4, .ref q), (0, .ref (ad 0)), (1, .int (zI a1)), (2, .int (zI a2)), (3, .ref o9)]) rfl rfl ?_
    refine y_iconst cx dL_line_15 16 rfl ?_
    subst hQ
    exact z_iret cx dL_line_16 (by rw [hk]) (by rw [hk]; rfl)
theorem qw_1332 : Cond.codeWith yL_ring method_4_code 5 (some .int) [(0, 10, 13, 13)] ∈ zT := zin 1332 (by decide +kernel) (by decide +kernel)
theorem dL_ring_0 : decode method_4_code 0 = .ok (.aload_n 3, 1) := by decide +kernel
theorem dL_ring_1 : decode method_4_code 1 = .ok (.iconst 0, 1) := by decide +kernel
theorem dL_ring_2 : decode method_4_code 2 = .ok (.aload_n 0, 1) := by decide +kernel
theorem dL_ring_3 : decode method_4_code 3 = .ok (.iload_n 1, 1) := by decide +kernel
theorem dL_ring_4 : decode method_4_code 4 = .ok (.iload_n 2, 1) := by decide +kernel
theorem dL_ring_5 : decode method_4_code 5 = .ok (.invokevirtual 15, 3) := by decide +kernel
theorem dL_ring_8 : decode method_4_code 8 = .ok (.i2l, 1) := by decide +kernel
theorem dL_ring_9 : decode method_4_code 9 = .ok (.lastore, 1) := by decide +kernel
theorem dL_ring_10 : decode method_4_code 10 = .ok (.goto 7, 3) := by decide +kernel
theorem dL_ring_13 : decode method_4_code 13 = .ok (.astore 4, 2) := by decide +kernel
theorem dL_ring_15 : decode method_4_code 15 = .ok (.iconst 1, 1) := by decide +kernel
theorem dL_ring_16 : decode method_4_code 16 = .ok (.ireturn, 1) := by decide +kernel
theorem dL_ring_17 : decode method_4_code 17 = .ok (.iconst 0, 1) := by decide +kernel
theorem dL_ring_18 : decode method_4_code 18 = .ok (.ireturn, 1) := by decide +kernel
def zrL_ring : Room := { frames := 8, cells := 1, slots := 6, locals := 200 }

theorem kL_ring : zK yX11_ring cX11_ring 3 (some .int) 2 := ⟨qw_1336, qw_112, by decide +kernel, by decide +kernel, by decide +kernel⟩
set_option maxHeartbeats 4000000 in
theorem tL_ring {l : Launch} {ks : ZS} {g : ZG} {ad : Nat → Nat} {o9 : Nat} {f : Nat → Int} {X : ZB} {N : ZB} {T : ZB} {Rd : ZB} {Fr : ZB} {Ac : ZA} {Ch : ZB} {PS : ZB} {Ly : ZB} {Pa : ZQ} {OT : ZB} {Ea : ZB} {Ga : ZB} {Im0 : ZO} {Im1 : ZO} {a1 a2 : Int} {r : Int × Int × ZB} (h : fX_ring N Ch a1 a2 = some r) (hl9 : l.stackTraces = false) : zMw l ks yL_ring method_4_code 5 [(0, 10, 13, 13)] zrL_ring g [.ref (ad 0), .int (zI a1), .int (zI a2), .ref o9] (wX (g.1, g.2.1, ad) X N T Rd Fr Ac Ch PS Ly Pa OT Ea Ga Im0 Im1 ++ [(o9, .inl (g.2.1 1, 1, .inr (.inl (wj (f)))))]) (wX (g.1, g.2.1, ad) X N T Rd Fr Ac r.2.2 PS Ly Pa OT Ea Ga Im0 Im1 ++ [(o9, .inl (g.2.1 1, 1, .inr (.inl (wj (if r.1 = 0 then up f 0 (nm r.2.1) else f)))))]) (zI r.1) := by
  refine zMw_of (own := "ForestPacksLaw") rfl (by decide +kernel) (Nat.le_of_ble_eq_true rfl) (lv := [(0, .ref (ad 0)), (1, .int (zI a1)), (2, .int (zI a2)), (3, .ref o9)]) rfl ?_
  intro p e s m args below meth c A Q hQ cx hE htab
  refine z_aload_n cx dL_ring_0 1 rfl rfl 3 rfl ?_
  refine y_iconst cx dL_ring_1 2 rfl ?_
  refine z_aload_n cx dL_ring_2 3 rfl rfl 0 rfl ?_
  refine z_iload_n cx dL_ring_3 4 rfl rfl 1 rfl ?_
  refine z_iload_n cx dL_ring_4 5 rfl rfl 2 rfl ?_
  refine z_callX (As := [.int (zI a1), .int (zI a2)]) (rest := [.int (zI 0), .ref o9]) (wr := [(o9, .inl (g.2.1 1, 1, .inr (.inl (wj (f)))))]) cx hE (tX_ring (g := (g.1, g.2.1, ad)) h hl9) dL_ring_5 8 rfl kL_ring qw_1333 qw_1334 qw_1335 rfl e_X rfl rfl ⟨Nat.le_of_ble_eq_true rfl, Nat.le_of_ble_eq_true rfl⟩ rfl rfl (Nat.le_of_ble_eq_true rfl) ⟨Nat.le_of_ble_eq_true rfl, Nat.le_of_ble_eq_true rfl⟩ ⟨0, 10, 13, 13⟩ htab (by decide) (by decide) qw_1260 (fun hk => ?_) (fun hk q => ?_)
  · refine y_i2l cx dL_ring_8 9 rfl ?_
    refine z_lout (wr := wX (g.1, g.2.1, ad) X N T Rd Fr Ac r.2.2 PS Ly Pa OT Ea Ga Im0 Im1) cx dL_ring_9 10 rfl rfl ?_
    refine z_goto cx dL_ring_10 17 (by decide) ?_
    refine y_iconst cx dL_ring_17 18 rfl ?_
    subst hQ
    exact z_iret cx dL_ring_18 (by rw [hk]) (by rw [hk]; rfl)
  · refine z_astore (x := q) cx dL_ring_13 15 rfl (by decide) (lv' := [(4, .ref q), (0, .ref (ad 0)), (1, .int (zI a1)), (2, .int (zI a2)), (3, .ref o9)]) rfl rfl ?_
    refine y_iconst cx dL_ring_15 16 rfl ?_
    subst hQ
    exact z_iret cx dL_ring_16 (by rw [hk]) (by rw [hk]; rfl)
