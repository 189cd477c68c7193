-- needs: 07z.sim 20.lawrows 20.lawdec 20.lawlk 20.lawz 14.vclass3 15.vmodel3 18.xxlaw
set_option maxHeartbeats 4000000 in
theorem lawC_0 {p : Program} {l : Launch} {e : Env} {s : State} {m : MethodId} {args : Array Value} {below : List Frame} {meth : Method} {c : Code} {A : Nat → Prop} {g : ZG} {Q : State → Prop} {ks : ZS} {adx adm : Nat → Nat} {o9 b L nc ns : Nat} {xs : Nat → Int32} {f : Nat → Int} {i : Int} {X : ZB} {N : ZB} {T : ZB} {Rd : ZB} {Fr : ZB} {Ac : ZA} {Ch : ZB} {PS : ZB} {Ly : ZB} {Pa : ZQ} {OT : ZB} {Ea : ZB} {Ga : ZB} {Im0 : ZO} {Im1 : ZO} {M : ZB} {INV : ZB → ZB → ZB → ZB → ZB → ZA → ZB → ZB → ZB → ZQ → ZB → ZB → ZB → Option ZB → Option ZB → ZB → Prop} (cx : zC p s m args meth c code "ForestPacksLaw" 7 A s.heap g ret) (hE : zE ks A s) (hl9 : l.stackTraces = false) (hX : va_X b L xs s s.heap) (hbl : b < s.heap.size) (hbA : ¬ A b) (hL : L ≤ 3072) (hi : 0 ≤ i ∧ i + 6 ≤ L) (hnc : nc + 5 ≤ 601024) (hns : ns + 105 ≤ 7293034) (hI : INV X N T Rd Fr Ac Ch PS Ly Pa OT Ea Ga (cont Im0) (cont Im1) M) (hS : Sim0 INV) (next : ∀ (X : ZB) (N : ZB) (T : ZB) (Rd : ZB) (Fr : ZB) (Ac : ZA) (Ch : ZB) (PS : ZB) (Ly : ZB) (Pa : ZQ) (OT : ZB) (Ea : ZB) (Ga : ZB) (q0 q1 : ZO) (M : ZB) (f : Nat → Int), INV X N T Rd Fr Ac Ch PS Ly Pa OT Ea Ga (cont q0) (cont q1) M → V p l e room_1 s m args below meth c A s.heap g 7 Q (wX (g.1, g.2.1, adx) X N T Rd Fr Ac Ch PS Ly Pa OT Ea Ga q0 q1 ++ (wM (g.1, g.2.1, adm) M ++ [(o9, .inl (g.2.1 1, 1, .inr (.inl (wj (f)))))])) (nc + 5) (ns + 105) [(0, .ref b), (1, .ref (adx 0)), (2, .ref (adm 0)), (3, .ref o9), (4, .int (zI i))] 1360 []) : V p l e room_1 s m args below meth c A s.heap g 7 Q (wX (g.1, g.2.1, adx) X N T Rd Fr Ac Ch PS Ly Pa OT Ea Ga Im0 Im1 ++ (wM (g.1, g.2.1, adm) M ++ [(o9, .inl (g.2.1 1, 1, .inr (.inl (wj (f)))))])) (nc) (ns) [(0, .ref b), (1, .ref (adx 0)), (2, .ref (adm 0)), (3, .ref o9), (4, .int (zI i))] 224 [] := by
  obtain ⟨r, t, h1, h2, he, hJ⟩ := hS _ _ _ _ _ _ _ _ _ _ _ _ _ _ _ _ (zsc xs (i + 1)) (zsc xs (i + 2)) (zsc xs (i + 3)) (zsc xs (i + 4)) (zsc xs (i + 5)) hI (zsc_r xs _) (zsc_r xs _) (zsc_r xs _) (zsc_r xs _) (zsc_r xs _)
  refine z_aload_n cx dW_224 225 rfl rfl 1 rfl ?_
  refine z_aload_n cx dW_225 226 rfl rfl 0 rfl ?_
  refine z_iload cx dW_226 228 rfl 4 rfl ?_
  refine y_iconst cx dW_228 229 rfl ?_
  refine y_iadd cx dW_229 230 rfl ?_
  refine z_sld cx hX hbl hbA (by omega) hL dW_230 231 rfl ?_
  refine z_aload_n cx dW_231 232 rfl rfl 0 rfl ?_
  refine z_iload cx dW_232 234 rfl 4 rfl ?_
  refine y_iconst cx dW_234 235 rfl ?_
  refine y_iadd cx dW_235 236 rfl ?_
  refine z_sld cx hX hbl hbA (by omega) hL dW_236 237 rfl ?_
  refine z_aload_n cx dW_237 238 rfl rfl 0 rfl ?_
  refine z_iload cx dW_238 240 rfl 4 rfl ?_
  refine y_iconst cx dW_240 241 rfl ?_
  refine y_iadd cx dW_241 242 rfl ?_
  refine z_sld cx hX hbl hbA (by omega) hL dW_242 243 rfl ?_
  refine z_aload_n cx dW_243 244 rfl rfl 0 rfl ?_
  refine z_iload cx dW_244 246 rfl 4 rfl ?_
  refine y_iconst cx dW_246 247 rfl ?_
  refine y_iadd cx dW_247 248 rfl ?_
  refine z_sld cx hX hbl hbA (by omega) hL dW_248 249 rfl ?_
  refine z_aload_n cx dW_249 250 rfl rfl 0 rfl ?_
  refine z_iload cx dW_250 252 rfl 4 rfl ?_
  refine y_iconst cx dW_252 253 rfl ?_
  refine y_iadd cx dW_253 254 rfl ?_
  refine z_sld cx hX hbl hbA (by omega) hL dW_254 255 rfl ?_
  refine z_callF (As := [.int (zI (zsc xs (i + 1))), .int (zI (zsc xs (i + 2))), .int (zI (zsc xs (i + 3))), .int (zI (zsc xs (i + 4))), .int (zI (zsc xs (i + 5)))]) (rest := []) (rm := zrX_feed) (wr := wM (g.1, g.2.1, adm) M ++ [(o9, .inl (g.2.1 1, 1, .inr (.inl (wj (f)))))]) (wc := wX (g.1, g.2.1, adx) X N T Rd Fr Ac Ch PS Ly Pa OT Ea Ga Im0 Im1) (wc' := wX (g.1, g.2.1, adx) X N (r.2) Rd Fr Ac Ch PS Ly Pa OT Ea Ga Im0 Im1) (w' := wX (g.1, g.2.1, adx) X N (r.2) Rd Fr Ac Ch PS Ly Pa OT Ea Ga Im0 Im1 ++ (wM (g.1, g.2.1, adm) M ++ [(o9, .inl (g.2.1 1, 1, .inr (.inl (wj (f)))))])) (r := zI r.1) cx (tX_feed h1) dW_255 258 rfl kl_X_feed ql_577 ql_578 ql_579 rfl e_X rfl List.perm_append_comm List.perm_append_comm ⟨rfl, rfl⟩ ⟨Nat.le_of_ble_eq_true rfl, Nat.le_of_ble_eq_true rfl⟩ rfl rfl (Nat.le_of_ble_eq_true rfl) ⟨by show nc ≤ 601024; omega, by show ns ≤ 7293034; omega⟩ ?_
  refine z_aload_n cx dW_258 259 rfl rfl 2 rfl ?_
  refine z_aload_n cx dW_259 260 rfl rfl 0 rfl ?_
  refine z_iload cx dW_260 262 rfl 4 rfl ?_
  refine y_iconst cx dW_262 263 rfl ?_
  refine y_iadd cx dW_263 264 rfl ?_
  refine z_sld cx hX hbl hbA (by omega) hL dW_264 265 rfl ?_
  refine z_aload_n cx dW_265 266 rfl rfl 0 rfl ?_
  refine z_iload cx dW_266 268 rfl 4 rfl ?_
  refine y_iconst cx dW_268 269 rfl ?_
  refine y_iadd cx dW_269 270 rfl ?_
  refine z_sld cx hX hbl hbA (by omega) hL dW_270 271 rfl ?_
  refine z_aload_n cx dW_271 272 rfl rfl 0 rfl ?_
  refine z_iload cx dW_272 274 rfl 4 rfl ?_
  refine y_iconst cx dW_274 275 rfl ?_
  refine y_iadd cx dW_275 276 rfl ?_
  refine z_sld cx hX hbl hbA (by omega) hL dW_276 277 rfl ?_
  refine z_aload_n cx dW_277 278 rfl rfl 0 rfl ?_
  refine z_iload cx dW_278 280 rfl 4 rfl ?_
  refine y_iconst cx dW_280 281 rfl ?_
  refine y_iadd cx dW_281 282 rfl ?_
  refine z_sld cx hX hbl hbA (by omega) hL dW_282 283 rfl ?_
  refine z_aload_n cx dW_283 284 rfl rfl 0 rfl ?_
  refine z_iload cx dW_284 286 rfl 4 rfl ?_
  refine y_iconst cx dW_286 287 rfl ?_
  refine y_iadd cx dW_287 288 rfl ?_
  refine z_sld cx hX hbl hbA (by omega) hL dW_288 289 rfl ?_
  refine z_callF (As := [.int (zI (zsc xs (i + 1))), .int (zI (zsc xs (i + 2))), .int (zI (zsc xs (i + 3))), .int (zI (zsc xs (i + 4))), .int (zI (zsc xs (i + 5)))]) (rest := [.int (zI r.1)]) (rm := zrM_feed) (wr := wX (g.1, g.2.1, adx) X N (r.2) Rd Fr Ac Ch PS Ly Pa OT Ea Ga Im0 Im1 ++ [(o9, .inl (g.2.1 1, 1, .inr (.inl (wj (f)))))]) (wc := wM (g.1, g.2.1, adm) M) (wc' := wM (g.1, g.2.1, adm) (t.2)) (w' := wX (g.1, g.2.1, adx) X N (r.2) Rd Fr Ac Ch PS Ly Pa OT Ea Ga Im0 Im1 ++ (wM (g.1, g.2.1, adm) (t.2) ++ [(o9, .inl (g.2.1 1, 1, .inr (.inl (wj (f)))))])) (r := zI t.1) cx (tM_feed h2) dW_289 292 rfl kl_M_feed ql_1343 ql_1344 ql_1345 rfl e_M rfl (z_pm1 _ _ _) (z_pm2 _ _ _) ⟨rfl, rfl⟩ ⟨Nat.le_of_ble_eq_true rfl, Nat.le_of_ble_eq_true rfl⟩ rfl rfl (Nat.le_of_ble_eq_true rfl) ⟨by show nc ≤ 601024; omega, by show ns ≤ 7293034; omega⟩ ?_
  refine z_icmp_eq cx dW_292 295 rfl 1360 (by decide) (fun _ => ?_) (fun h => absurd (congrArg zI he) h)
  refine z_widen (k := nc + 5) (n := ns + 105) (by show nc ≤ nc + 5; omega) (by show ns ≤ ns + 105; omega) ?_
  exact next _ _ _ _ _ _ _ _ _ _ _ _ _ Im0 Im1 _ _ hJ
set_option maxHeartbeats 4000000 in
theorem lawC_1 {p : Program} {l : Launch} {e : Env} {s : State} {m : MethodId} {args : Array Value} {below : List Frame} {meth : Method} {c : Code} {A : Nat → Prop} {g : ZG} {Q : State → Prop} {ks : ZS} {adx adm : Nat → Nat} {o9 b L nc ns : Nat} {xs : Nat → Int32} {f : Nat → Int} {i : Int} {X : ZB} {N : ZB} {T : ZB} {Rd : ZB} {Fr : ZB} {Ac : ZA} {Ch : ZB} {PS : ZB} {Ly : ZB} {Pa : ZQ} {OT : ZB} {Ea : ZB} {Ga : ZB} {Im0 : ZO} {Im1 : ZO} {M : ZB} {INV : ZB → ZB → ZB → ZB → ZB → ZA → ZB → ZB → ZB → ZQ → ZB → ZB → ZB → Option ZB → Option ZB → ZB → Prop} (cx : zC p s m args meth c code "ForestPacksLaw" 7 A s.heap g ret) (hE : zE ks A s) (hl9 : l.stackTraces = false) (hX : va_X b L xs s s.heap) (hbl : b < s.heap.size) (hbA : ¬ A b) (hL : L ≤ 3072) (hi : 0 ≤ i ∧ i + 6 ≤ L) (hnc : nc + 5 ≤ 601024) (hns : ns + 105 ≤ 7293034) (hI : INV X N T Rd Fr Ac Ch PS Ly Pa OT Ea Ga (cont Im0) (cont Im1) M) (hS : Sim1 INV) (next : ∀ (X : ZB) (N : ZB) (T : ZB) (Rd : ZB) (Fr : ZB) (Ac : ZA) (Ch : ZB) (PS : ZB) (Ly : ZB) (Pa : ZQ) (OT : ZB) (Ea : ZB) (Ga : ZB) (q0 q1 : ZO) (M : ZB) (f : Nat → Int), INV X N T Rd Fr Ac Ch PS Ly Pa OT Ea Ga (cont q0) (cont q1) M → V p l e room_1 s m args below meth c A s.heap g 7 Q (wX (g.1, g.2.1, adx) X N T Rd Fr Ac Ch PS Ly Pa OT Ea Ga q0 q1 ++ (wM (g.1, g.2.1, adm) M ++ [(o9, .inl (g.2.1 1, 1, .inr (.inl (wj (f)))))])) (nc + 5) (ns + 105) [(0, .ref b), (1, .ref (adx 0)), (2, .ref (adm 0)), (3, .ref o9), (4, .int (zI i))] 1360 []) : V p l e room_1 s m args below meth c A s.heap g 7 Q (wX (g.1, g.2.1, adx) X N T Rd Fr Ac Ch PS Ly Pa OT Ea Ga Im0 Im1 ++ (wM (g.1, g.2.1, adm) M ++ [(o9, .inl (g.2.1 1, 1, .inr (.inl (wj (f)))))])) (nc) (ns) [(0, .ref b), (1, .ref (adx 0)), (2, .ref (adm 0)), (3, .ref o9), (4, .int (zI i))] 297 [] := by
  obtain ⟨r, t, h1, h2, he, hJ⟩ := hS _ _ _ _ _ _ _ _ _ _ _ _ _ _ _ _ (zsc xs (i + 1)) hI (zsc_r xs _)
  refine z_aload_n cx dW_297 298 rfl rfl 1 rfl ?_
  refine z_aload_n cx dW_298 299 rfl rfl 0 rfl ?_
  refine z_iload cx dW_299 301 rfl 4 rfl ?_
  refine y_iconst cx dW_301 302 rfl ?_
  refine y_iadd cx dW_302 303 rfl ?_
  refine z_sld cx hX hbl hbA (by omega) hL dW_303 304 rfl ?_
  refine z_callF (As := [.int (zI (zsc xs (i + 1)))]) (rest := []) (rm := zrX_end) (wr := wM (g.1, g.2.1, adm) M ++ [(o9, .inl (g.2.1 1, 1, .inr (.inl (wj (f)))))]) (wc := wX (g.1, g.2.1, adx) X N T Rd Fr Ac Ch PS Ly Pa OT Ea Ga Im0 Im1) (wc' := wX (g.1, g.2.1, adx) X N (r.2) Rd Fr Ac Ch PS Ly Pa OT Ea Ga Im0 Im1) (w' := wX (g.1, g.2.1, adx) X N (r.2) Rd Fr Ac Ch PS Ly Pa OT Ea Ga Im0 Im1 ++ (wM (g.1, g.2.1, adm) M ++ [(o9, .inl (g.2.1 1, 1, .inr (.inl (wj (f)))))])) (r := zI r.1) cx (tX_end h1) dW_304 307 rfl kl_X_end ql_593 ql_594 ql_595 rfl e_X rfl List.perm_append_comm List.perm_append_comm ⟨rfl, rfl⟩ ⟨Nat.le_of_ble_eq_true rfl, Nat.le_of_ble_eq_true rfl⟩ rfl rfl (Nat.le_of_ble_eq_true rfl) ⟨by show nc ≤ 601024; omega, by show ns ≤ 7293034; omega⟩ ?_
  refine z_aload_n cx dW_307 308 rfl rfl 2 rfl ?_
  refine z_aload_n cx dW_308 309 rfl rfl 0 rfl ?_
  refine z_iload cx dW_309 311 rfl 4 rfl ?_
  refine y_iconst cx dW_311 312 rfl ?_
  refine y_iadd cx dW_312 313 rfl ?_
  refine z_sld cx hX hbl hbA (by omega) hL dW_313 314 rfl ?_
  refine z_callF (As := [.int (zI (zsc xs (i + 1)))]) (rest := [.int (zI r.1)]) (rm := zr0) (wr := wX (g.1, g.2.1, adx) X N (r.2) Rd Fr Ac Ch PS Ly Pa OT Ea Ga Im0 Im1 ++ [(o9, .inl (g.2.1 1, 1, .inr (.inl (wj (f)))))]) (wc := wM (g.1, g.2.1, adm) M) (wc' := wM (g.1, g.2.1, adm) (t.2)) (w' := wX (g.1, g.2.1, adx) X N (r.2) Rd Fr Ac Ch PS Ly Pa OT Ea Ga Im0 Im1 ++ (wM (g.1, g.2.1, adm) (t.2) ++ [(o9, .inl (g.2.1 1, 1, .inr (.inl (wj (f)))))])) (r := zI t.1) cx (tM_end h2) dW_314 317 rfl kl_M_end ql_1352 ql_1353 ql_1354 rfl e_M rfl (z_pm1 _ _ _) (z_pm2 _ _ _) ⟨rfl, rfl⟩ ⟨Nat.le_of_ble_eq_true rfl, Nat.le_of_ble_eq_true rfl⟩ rfl rfl (Nat.le_of_ble_eq_true rfl) ⟨by show nc ≤ 601024; omega, by show ns ≤ 7293034; omega⟩ ?_
  refine z_icmp_eq cx dW_317 320 rfl 1360 (by decide) (fun _ => ?_) (fun h => absurd (congrArg zI he) h)
  refine z_widen (k := nc + 5) (n := ns + 105) (by show nc ≤ nc + 5; omega) (by show ns ≤ ns + 105; omega) ?_
  exact next _ _ _ _ _ _ _ _ _ _ _ _ _ Im0 Im1 _ _ hJ
set_option maxHeartbeats 4000000 in
theorem lawC_2 {p : Program} {l : Launch} {e : Env} {s : State} {m : MethodId} {args : Array Value} {below : List Frame} {meth : Method} {c : Code} {A : Nat → Prop} {g : ZG} {Q : State → Prop} {ks : ZS} {adx adm : Nat → Nat} {o9 b L nc ns : Nat} {xs : Nat → Int32} {f : Nat → Int} {i : Int} {X : ZB} {N : ZB} {T : ZB} {Rd : ZB} {Fr : ZB} {Ac : ZA} {Ch : ZB} {PS : ZB} {Ly : ZB} {Pa : ZQ} {OT : ZB} {Ea : ZB} {Ga : ZB} {Im0 : ZO} {Im1 : ZO} {M : ZB} {INV : ZB → ZB → ZB → ZB → ZB → ZA → ZB → ZB → ZB → ZQ → ZB → ZB → ZB → Option ZB → Option ZB → ZB → Prop} (cx : zC p s m args meth c code "ForestPacksLaw" 7 A s.heap g ret) (hE : zE ks A s) (hl9 : l.stackTraces = false) (hX : va_X b L xs s s.heap) (hbl : b < s.heap.size) (hbA : ¬ A b) (hL : L ≤ 3072) (hi : 0 ≤ i ∧ i + 6 ≤ L) (hnc : nc + 5 ≤ 601024) (hns : ns + 105 ≤ 7293034) (hI : INV X N T Rd Fr Ac Ch PS Ly Pa OT Ea Ga (cont Im0) (cont Im1) M) (hS : Sim2 INV) (next : ∀ (X : ZB) (N : ZB) (T : ZB) (Rd : ZB) (Fr : ZB) (Ac : ZA) (Ch : ZB) (PS : ZB) (Ly : ZB) (Pa : ZQ) (OT : ZB) (Ea : ZB) (Ga : ZB) (q0 q1 : ZO) (M : ZB) (f : Nat → Int), INV X N T Rd Fr Ac Ch PS Ly Pa OT Ea Ga (cont q0) (cont q1) M → V p l e room_1 s m args below meth c A s.heap g 7 Q (wX (g.1, g.2.1, adx) X N T Rd Fr Ac Ch PS Ly Pa OT Ea Ga q0 q1 ++ (wM (g.1, g.2.1, adm) M ++ [(o9, .inl (g.2.1 1, 1, .inr (.inl (wj (f)))))])) (nc + 5) (ns + 105) [(0, .ref b), (1, .ref (adx 0)), (2, .ref (adm 0)), (3, .ref o9), (4, .int (zI i))] 1360 []) : V p l e room_1 s m args below meth c A s.heap g 7 Q (wX (g.1, g.2.1, adx) X N T Rd Fr Ac Ch PS Ly Pa OT Ea Ga Im0 Im1 ++ (wM (g.1, g.2.1, adm) M ++ [(o9, .inl (g.2.1 1, 1, .inr (.inl (wj (f)))))])) (nc) (ns) [(0, .ref b), (1, .ref (adx 0)), (2, .ref (adm 0)), (3, .ref o9), (4, .int (zI i))] 322 [] := by
  obtain ⟨r, t, h1, h2, he, hJ⟩ := hS _ _ _ _ _ _ _ _ _ _ _ _ _ _ _ _  hI
  refine z_aload_n cx dW_322 323 rfl rfl 1 rfl ?_
  refine z_callF (As := []) (rest := []) (rm := zrX_net) (wr := wM (g.1, g.2.1, adm) M ++ [(o9, .inl (g.2.1 1, 1, .inr (.inl (wj (f)))))]) (wc := wX (g.1, g.2.1, adx) X N T Rd Fr Ac Ch PS Ly Pa OT Ea Ga Im0 Im1) (wc' := wX (g.1, g.2.1, adx) X (r.2.1) (r.2.2.1) (r.2.2.2.1) (r.2.2.2.2.1) (r.2.2.2.2.2) Ch PS Ly Pa OT Ea Ga Im0 Im1) (w' := wX (g.1, g.2.1, adx) X (r.2.1) (r.2.2.1) (r.2.2.2.1) (r.2.2.2.2.1) (r.2.2.2.2.2) Ch PS Ly Pa OT Ea Ga Im0 Im1 ++ (wM (g.1, g.2.1, adm) M ++ [(o9, .inl (g.2.1 1, 1, .inr (.inl (wj (f)))))])) (r := zI r.1) cx (tX_net h1) dW_323 326 rfl kl_X_net ql_601 ql_602 ql_603 rfl e_X rfl List.perm_append_comm List.perm_append_comm ⟨rfl, rfl⟩ ⟨Nat.le_of_ble_eq_true rfl, Nat.le_of_ble_eq_true rfl⟩ rfl rfl (Nat.le_of_ble_eq_true rfl) ⟨by show nc ≤ 601024; omega, by show ns ≤ 7293034; omega⟩ ?_
  refine z_aload_n cx dW_326 327 rfl rfl 2 rfl ?_
  refine z_callF (As := []) (rest := [.int (zI r.1)]) (rm := zrM_net) (wr := wX (g.1, g.2.1, adx) X (r.2.1) (r.2.2.1) (r.2.2.2.1) (r.2.2.2.2.1) (r.2.2.2.2.2) Ch PS Ly Pa OT Ea Ga Im0 Im1 ++ [(o9, .inl (g.2.1 1, 1, .inr (.inl (wj (f)))))]) (wc := wM (g.1, g.2.1, adm) M) (wc' := wM (g.1, g.2.1, adm) (t.2)) (w' := wX (g.1, g.2.1, adx) X (r.2.1) (r.2.2.1) (r.2.2.2.1) (r.2.2.2.2.1) (r.2.2.2.2.2) Ch PS Ly Pa OT Ea Ga Im0 Im1 ++ (wM (g.1, g.2.1, adm) (t.2) ++ [(o9, .inl (g.2.1 1, 1, .inr (.inl (wj (f)))))])) (r := zI t.1) cx (tM_net h2) dW_327 330 rfl kl_M_net ql_1489 ql_1490 ql_1491 rfl e_M rfl (z_pm1 _ _ _) (z_pm2 _ _ _) ⟨rfl, rfl⟩ ⟨Nat.le_of_ble_eq_true rfl, Nat.le_of_ble_eq_true rfl⟩ rfl rfl (Nat.le_of_ble_eq_true rfl) ⟨by show nc ≤ 601024; omega, by show ns ≤ 7293034; omega⟩ ?_
  refine z_icmp_eq cx dW_330 333 rfl 1360 (by decide) (fun _ => ?_) (fun h => absurd (congrArg zI he) h)
  refine z_widen (k := nc + 5) (n := ns + 105) (by show nc ≤ nc + 5; omega) (by show ns ≤ ns + 105; omega) ?_
  exact next _ _ _ _ _ _ _ _ _ _ _ _ _ Im0 Im1 _ _ hJ
set_option maxHeartbeats 4000000 in
theorem lawC_3 {p : Program} {l : Launch} {e : Env} {s : State} {m : MethodId} {args : Array Value} {below : List Frame} {meth : Method} {c : Code} {A : Nat → Prop} {g : ZG} {Q : State → Prop} {ks : ZS} {adx adm : Nat → Nat} {o9 b L nc ns : Nat} {xs : Nat → Int32} {f : Nat → Int} {i : Int} {X : ZB} {N : ZB} {T : ZB} {Rd : ZB} {Fr : ZB} {Ac : ZA} {Ch : ZB} {PS : ZB} {Ly : ZB} {Pa : ZQ} {OT : ZB} {Ea : ZB} {Ga : ZB} {Im0 : ZO} {Im1 : ZO} {M : ZB} {INV : ZB → ZB → ZB → ZB → ZB → ZA → ZB → ZB → ZB → ZQ → ZB → ZB → ZB → Option ZB → Option ZB → ZB → Prop} (cx : zC p s m args meth c code "ForestPacksLaw" 7 A s.heap g ret) (hE : zE ks A s) (hl9 : l.stackTraces = false) (hX : va_X b L xs s s.heap) (hbl : b < s.heap.size) (hbA : ¬ A b) (hL : L ≤ 3072) (hi : 0 ≤ i ∧ i + 6 ≤ L) (hnc : nc + 5 ≤ 601024) (hns : ns + 105 ≤ 7293034) (hI : INV X N T Rd Fr Ac Ch PS Ly Pa OT Ea Ga (cont Im0) (cont Im1) M) (hS : Sim3 INV) (next : ∀ (X : ZB) (N : ZB) (T : ZB) (Rd : ZB) (Fr : ZB) (Ac : ZA) (Ch : ZB) (PS : ZB) (Ly : ZB) (Pa : ZQ) (OT : ZB) (Ea : ZB) (Ga : ZB) (q0 q1 : ZO) (M : ZB) (f : Nat → Int), INV X N T Rd Fr Ac Ch PS Ly Pa OT Ea Ga (cont q0) (cont q1) M → V p l e room_1 s m args below meth c A s.heap g 7 Q (wX (g.1, g.2.1, adx) X N T Rd Fr Ac Ch PS Ly Pa OT Ea Ga q0 q1 ++ (wM (g.1, g.2.1, adm) M ++ [(o9, .inl (g.2.1 1, 1, .inr (.inl (wj (f)))))])) (nc + 5) (ns + 105) [(0, .ref b), (1, .ref (adx 0)), (2, .ref (adm 0)), (3, .ref o9), (4, .int (zI i))] 1360 []) : V p l e room_1 s m args below meth c A s.heap g 7 Q (wX (g.1, g.2.1, adx) X N T Rd Fr Ac Ch PS Ly Pa OT Ea Ga Im0 Im1 ++ (wM (g.1, g.2.1, adm) M ++ [(o9, .inl (g.2.1 1, 1, .inr (.inl (wj (f)))))])) (nc) (ns) [(0, .ref b), (1, .ref (adx 0)), (2, .ref (adm 0)), (3, .ref o9), (4, .int (zI i))] 335 [] := by
  obtain ⟨r, t, h1, h2, he, hJ⟩ := hS _ _ _ _ _ _ _ _ _ _ _ _ _ _ _ _  hI
  refine z_aload_n cx dW_335 336 rfl rfl 1 rfl ?_
  refine z_callF (As := []) (rest := []) (rm := zrX_fault) (wr := wM (g.1, g.2.1, adm) M ++ [(o9, .inl (g.2.1 1, 1, .inr (.inl (wj (f)))))]) (wc := wX (g.1, g.2.1, adx) X N T Rd Fr Ac Ch PS Ly Pa OT Ea Ga Im0 Im1) (wc' := wX (g.1, g.2.1, adx) X N T Rd Fr Ac Ch PS Ly Pa OT Ea Ga Im0 Im1) (w' := wX (g.1, g.2.1, adx) X N T Rd Fr Ac Ch PS Ly Pa OT Ea Ga Im0 Im1 ++ (wM (g.1, g.2.1, adm) M ++ [(o9, .inl (g.2.1 1, 1, .inr (.inl (wj (f)))))])) (r := zI r) cx (tX_fault h1) dW_336 339 rfl kl_X_fault ql_699 ql_700 ql_701 rfl e_X rfl List.perm_append_comm List.perm_append_comm ⟨rfl, rfl⟩ ⟨Nat.le_of_ble_eq_true rfl, Nat.le_of_ble_eq_true rfl⟩ rfl rfl (Nat.le_of_ble_eq_true rfl) ⟨by show nc ≤ 601024; omega, by show ns ≤ 7293034; omega⟩ ?_
  refine z_aload_n cx dW_339 340 rfl rfl 2 rfl ?_
  refine z_callF (As := []) (rest := [.int (zI r)]) (rm := zr0) (wr := wX (g.1, g.2.1, adx) X N T Rd Fr Ac Ch PS Ly Pa OT Ea Ga Im0 Im1 ++ [(o9, .inl (g.2.1 1, 1, .inr (.inl (wj (f)))))]) (wc := wM (g.1, g.2.1, adm) M) (wc' := wM (g.1, g.2.1, adm) (t.2)) (w' := wX (g.1, g.2.1, adx) X N T Rd Fr Ac Ch PS Ly Pa OT Ea Ga Im0 Im1 ++ (wM (g.1, g.2.1, adm) (t.2) ++ [(o9, .inl (g.2.1 1, 1, .inr (.inl (wj (f)))))])) (r := zI t.1) cx (tM_fault h2) dW_340 343 rfl kl_M_fault ql_1566 ql_1567 ql_1568 rfl e_M rfl (z_pm1 _ _ _) (z_pm2 _ _ _) ⟨rfl, rfl⟩ ⟨Nat.le_of_ble_eq_true rfl, Nat.le_of_ble_eq_true rfl⟩ rfl rfl (Nat.le_of_ble_eq_true rfl) ⟨by show nc ≤ 601024; omega, by show ns ≤ 7293034; omega⟩ ?_
  refine z_icmp_eq cx dW_343 346 rfl 1360 (by decide) (fun _ => ?_) (fun h => absurd (congrArg zI he) h)
  refine z_widen (k := nc + 5) (n := ns + 105) (by show nc ≤ nc + 5; omega) (by show ns ≤ ns + 105; omega) ?_
  exact next _ _ _ _ _ _ _ _ _ _ _ _ _ Im0 Im1 _ _ hJ
set_option maxHeartbeats 4000000 in
theorem lawC_4 {p : Program} {l : Launch} {e : Env} {s : State} {m : MethodId} {args : Array Value} {below : List Frame} {meth : Method} {c : Code} {A : Nat → Prop} {g : ZG} {Q : State → Prop} {ks : ZS} {adx adm : Nat → Nat} {o9 b L nc ns : Nat} {xs : Nat → Int32} {f : Nat → Int} {i : Int} {X : ZB} {N : ZB} {T : ZB} {Rd : ZB} {Fr : ZB} {Ac : ZA} {Ch : ZB} {PS : ZB} {Ly : ZB} {Pa : ZQ} {OT : ZB} {Ea : ZB} {Ga : ZB} {Im0 : ZO} {Im1 : ZO} {M : ZB} {INV : ZB → ZB → ZB → ZB → ZB → ZA → ZB → ZB → ZB → ZQ → ZB → ZB → ZB → Option ZB → Option ZB → ZB → Prop} (cx : zC p s m args meth c code "ForestPacksLaw" 7 A s.heap g ret) (hE : zE ks A s) (hl9 : l.stackTraces = false) (hX : va_X b L xs s s.heap) (hbl : b < s.heap.size) (hbA : ¬ A b) (hL : L ≤ 3072) (hi : 0 ≤ i ∧ i + 6 ≤ L) (hnc : nc + 5 ≤ 601024) (hns : ns + 105 ≤ 7293034) (hI : INV X N T Rd Fr Ac Ch PS Ly Pa OT Ea Ga (cont Im0) (cont Im1) M) (hS : Sim4 INV) (next : ∀ (X : ZB) (N : ZB) (T : ZB) (Rd : ZB) (Fr : ZB) (Ac : ZA) (Ch : ZB) (PS : ZB) (Ly : ZB) (Pa : ZQ) (OT : ZB) (Ea : ZB) (Ga : ZB) (q0 q1 : ZO) (M : ZB) (f : Nat → Int), INV X N T Rd Fr Ac Ch PS Ly Pa OT Ea Ga (cont q0) (cont q1) M → V p l e room_1 s m args below meth c A s.heap g 7 Q (wX (g.1, g.2.1, adx) X N T Rd Fr Ac Ch PS Ly Pa OT Ea Ga q0 q1 ++ (wM (g.1, g.2.1, adm) M ++ [(o9, .inl (g.2.1 1, 1, .inr (.inl (wj (f)))))])) (nc + 5) (ns + 105) [(0, .ref b), (1, .ref (adx 0)), (2, .ref (adm 0)), (3, .ref o9), (4, .int (zI i))] 1360 []) : V p l e room_1 s m args below meth c A s.heap g 7 Q (wX (g.1, g.2.1, adx) X N T Rd Fr Ac Ch PS Ly Pa OT Ea Ga Im0 Im1 ++ (wM (g.1, g.2.1, adm) M ++ [(o9, .inl (g.2.1 1, 1, .inr (.inl (wj (f)))))])) (nc) (ns) [(0, .ref b), (1, .ref (adx 0)), (2, .ref (adm 0)), (3, .ref o9), (4, .int (zI i))] 348 [] := by
  obtain ⟨r, t, h1, h2, he, hJ⟩ := hS _ _ _ _ _ _ _ _ _ _ _ _ _ _ _ _ (zsc xs (i + 1)) hI (zsc_r xs _)
  refine z_aload_n cx dW_348 349 rfl rfl 1 rfl ?_
  refine z_aload_n cx dW_349 350 rfl rfl 0 rfl ?_
  refine z_iload cx dW_350 352 rfl 4 rfl ?_
  refine y_iconst cx dW_352 353 rfl ?_
  refine y_iadd cx dW_353 354 rfl ?_
  refine z_sld cx hX hbl hbA (by omega) hL dW_354 355 rfl ?_
  refine z_callF (As := [.int (zI (zsc xs (i + 1)))]) (rest := []) (rm := zrX_forests) (wr := wM (g.1, g.2.1, adm) M ++ [(o9, .inl (g.2.1 1, 1, .inr (.inl (wj (f)))))]) (wc := wX (g.1, g.2.1, adx) X N T Rd Fr Ac Ch PS Ly Pa OT Ea Ga Im0 Im1) (wc' := wX (g.1, g.2.1, adx) X (r.2.1) T Rd Fr (r.2.2) Ch PS Ly Pa OT Ea Ga Im0 Im1) (w' := wX (g.1, g.2.1, adx) X (r.2.1) T Rd Fr (r.2.2) Ch PS Ly Pa OT Ea Ga Im0 Im1 ++ (wM (g.1, g.2.1, adm) M ++ [(o9, .inl (g.2.1 1, 1, .inr (.inl (wj (f)))))])) (r := zI r.1) cx (tX_forests h1) dW_355 358 rfl kl_X_forests ql_707 ql_708 ql_709 rfl e_X rfl List.perm_append_comm List.perm_append_comm ⟨rfl, rfl⟩ ⟨Nat.le_of_ble_eq_true rfl, Nat.le_of_ble_eq_true rfl⟩ rfl rfl (Nat.le_of_ble_eq_true rfl) ⟨by show nc ≤ 601024; omega, by show ns ≤ 7293034; omega⟩ ?_
  refine z_aload_n cx dW_358 359 rfl rfl 2 rfl ?_
  refine z_aload_n cx dW_359 360 rfl rfl 0 rfl ?_
  refine z_iload cx dW_360 362 rfl 4 rfl ?_
  refine y_iconst cx dW_362 363 rfl ?_
  refine y_iadd cx dW_363 364 rfl ?_
  refine z_sld cx hX hbl hbA (by omega) hL dW_364 365 rfl ?_
  refine z_callF (As := [.int (zI (zsc xs (i + 1)))]) (rest := [.int (zI r.1)]) (rm := zrM_forests) (wr := wX (g.1, g.2.1, adx) X (r.2.1) T Rd Fr (r.2.2) Ch PS Ly Pa OT Ea Ga Im0 Im1 ++ [(o9, .inl (g.2.1 1, 1, .inr (.inl (wj (f)))))]) (wc := wM (g.1, g.2.1, adm) M) (wc' := wM (g.1, g.2.1, adm) (t.2)) (w' := wX (g.1, g.2.1, adx) X (r.2.1) T Rd Fr (r.2.2) Ch PS Ly Pa OT Ea Ga Im0 Im1 ++ (wM (g.1, g.2.1, adm) (t.2) ++ [(o9, .inl (g.2.1 1, 1, .inr (.inl (wj (f)))))])) (r := zI t.1) cx (tM_forests h2) dW_365 368 rfl kl_M_forests ql_1570 ql_1571 ql_1572 rfl e_M rfl (z_pm1 _ _ _) (z_pm2 _ _ _) ⟨rfl, rfl⟩ ⟨Nat.le_of_ble_eq_true rfl, Nat.le_of_ble_eq_true rfl⟩ rfl rfl (Nat.le_of_ble_eq_true rfl) ⟨by show nc ≤ 601024; omega, by show ns ≤ 7293034; omega⟩ ?_
  refine z_icmp_eq cx dW_368 371 rfl 1360 (by decide) (fun _ => ?_) (fun h => absurd (congrArg zI he) h)
  refine z_widen (k := nc + 5) (n := ns + 105) (by show nc ≤ nc + 5; omega) (by show ns ≤ ns + 105; omega) ?_
  exact next _ _ _ _ _ _ _ _ _ _ _ _ _ Im0 Im1 _ _ hJ
set_option maxHeartbeats 4000000 in
theorem lawC_5 {p : Program} {l : Launch} {e : Env} {s : State} {m : MethodId} {args : Array Value} {below : List Frame} {meth : Method} {c : Code} {A : Nat → Prop} {g : ZG} {Q : State → Prop} {ks : ZS} {adx adm : Nat → Nat} {o9 b L nc ns : Nat} {xs : Nat → Int32} {f : Nat → Int} {i : Int} {X : ZB} {N : ZB} {T : ZB} {Rd : ZB} {Fr : ZB} {Ac : ZA} {Ch : ZB} {PS : ZB} {Ly : ZB} {Pa : ZQ} {OT : ZB} {Ea : ZB} {Ga : ZB} {Im0 : ZO} {Im1 : ZO} {M : ZB} {INV : ZB → ZB → ZB → ZB → ZB → ZA → ZB → ZB → ZB → ZQ → ZB → ZB → ZB → Option ZB → Option ZB → ZB → Prop} (cx : zC p s m args meth c code "ForestPacksLaw" 7 A s.heap g ret) (hE : zE ks A s) (hl9 : l.stackTraces = false) (hX : va_X b L xs s s.heap) (hbl : b < s.heap.size) (hbA : ¬ A b) (hL : L ≤ 3072) (hi : 0 ≤ i ∧ i + 6 ≤ L) (hnc : nc + 5 ≤ 601024) (hns : ns + 105 ≤ 7293034) (hI : INV X N T Rd Fr Ac Ch PS Ly Pa OT Ea Ga (cont Im0) (cont Im1) M) (hS : Sim5 INV) (next : ∀ (X : ZB) (N : ZB) (T : ZB) (Rd : ZB) (Fr : ZB) (Ac : ZA) (Ch : ZB) (PS : ZB) (Ly : ZB) (Pa : ZQ) (OT : ZB) (Ea : ZB) (Ga : ZB) (q0 q1 : ZO) (M : ZB) (f : Nat → Int), INV X N T Rd Fr Ac Ch PS Ly Pa OT Ea Ga (cont q0) (cont q1) M → V p l e room_1 s m args below meth c A s.heap g 7 Q (wX (g.1, g.2.1, adx) X N T Rd Fr Ac Ch PS Ly Pa OT Ea Ga q0 q1 ++ (wM (g.1, g.2.1, adm) M ++ [(o9, .inl (g.2.1 1, 1, .inr (.inl (wj (f)))))])) (nc + 5) (ns + 105) [(0, .ref b), (1, .ref (adx 0)), (2, .ref (adm 0)), (3, .ref o9), (4, .int (zI i))] 1360 []) : V p l e room_1 s m args below meth c A s.heap g 7 Q (wX (g.1, g.2.1, adx) X N T Rd Fr Ac Ch PS Ly Pa OT Ea Ga Im0 Im1 ++ (wM (g.1, g.2.1, adm) M ++ [(o9, .inl (g.2.1 1, 1, .inr (.inl (wj (f)))))])) (nc) (ns) [(0, .ref b), (1, .ref (adx 0)), (2, .ref (adm 0)), (3, .ref o9), (4, .int (zI i))] 373 [] := by
  obtain ⟨r, t, h1, h2, hr, hth, hv, hJ⟩ := hS _ _ _ _ _ _ _ _ _ _ _ _ _ _ _ _ (zsc xs (i + 1)) (zsc xs (i + 2)) hI (zsc_r xs _) (zsc_r xs _)
  refine z_aload_n cx dW_373 374 rfl rfl 1 rfl ?_
  refine z_aload_n cx dW_374 375 rfl rfl 0 rfl ?_
  refine z_iload cx dW_375 377 rfl 4 rfl ?_
  refine y_iconst cx dW_377 378 rfl ?_
  refine y_iadd cx dW_378 379 rfl ?_
  refine z_sld cx hX hbl hbA (by omega) hL dW_379 380 rfl ?_
  refine z_aload_n cx dW_380 381 rfl rfl 0 rfl ?_
  refine z_iload cx dW_381 383 rfl 4 rfl ?_
  refine y_iconst cx dW_383 384 rfl ?_
  refine y_iadd cx dW_384 385 rfl ?_
  refine z_sld cx hX hbl hbA (by omega) hL dW_385 386 rfl ?_
  refine z_aload_n cx dW_386 387 rfl rfl 3 rfl ?_
  refine z_callFw (n := 4) (As := [.ref (adx 0), .int (zI (zsc xs (i + 1))), .int (zI (zsc xs (i + 2))), .ref o9]) (rest := []) (rm := zrL_line) (wr := wM (g.1, g.2.1, adm) M) (wc := wX (g.1, g.2.1, adx) X N T Rd Fr Ac Ch PS Ly Pa OT Ea Ga Im0 Im1 ++ [(o9, .inl (g.2.1 1, 1, .inr (.inl (wj (f)))))]) (wc' := wX (g.1, g.2.1, adx) X N T Rd Fr Ac Ch PS Ly Pa OT Ea Ga Im0 Im1 ++ [(o9, .inl (g.2.1 1, 1, .inr (.inl (wj ((if r.1 = 0 then up f 0 (nm r.2) else f))))))]) (w' := wX (g.1, g.2.1, adx) X N T Rd Fr Ac Ch PS Ly Pa OT Ea Ga Im0 Im1 ++ (wM (g.1, g.2.1, adm) M ++ [(o9, .inl (g.2.1 1, 1, .inr (.inl (wj ((if r.1 = 0 then up f 0 (nm r.2) else f))))))])) cx hE (tL_line h1 hl9) dW_387 390 rfl qw_1259 ql_111 (by decide +kernel) ql_1257 ql_1258 (List.perm_append_comm_assoc _ _ _) (List.perm_append_comm_assoc _ _ _) ⟨Nat.le_of_ble_eq_true rfl, Nat.le_of_ble_eq_true rfl⟩ rfl rfl (Nat.le_of_ble_eq_true rfl) ⟨by show nc + 1 ≤ 601024; omega, by show ns + 6 ≤ 7293034; omega⟩ ?_
  refine y_istore cx dW_390 392 rfl (by decide) (lv' := [(5, .int (zI r.1)), (0, .ref b), (1, .ref (adx 0)), (2, .ref (adm 0)), (3, .ref o9), (4, .int (zI i))]) rfl ?_
  refine z_aload_n cx dW_392 393 rfl rfl 3 rfl ?_
  refine z_aload_n cx dW_393 394 rfl rfl 1 rfl ?_
  refine z_iload cx dW_394 396 rfl 5 rfl ?_
  refine y_iconst cx dW_396 397 rfl ?_
  refine y_iadd cx dW_397 398 rfl ?_
  refine z_sld cx hX hbl hbA (by omega) hL dW_398 399 rfl ?_
  refine z_aload_n cx dW_399 400 rfl rfl 1 rfl ?_
  refine z_iload cx dW_400 402 rfl 5 rfl ?_
  refine y_iconst cx dW_402 403 rfl ?_
  refine y_iadd cx dW_403 404 rfl ?_
  refine z_sld cx hX hbl hbA (by omega) hL dW_404 405 rfl ?_
  refine z_callF (As := [.int (zI (zsc xs (i + 1))), .int (zI (zsc xs (i + 2)))]) (rest := []) (rm := zrM_line) (wr := wX (g.1, g.2.1, adx) X N T Rd Fr Ac Ch PS Ly Pa OT Ea Ga Im0 Im1 ++ [(o9, .inl (g.2.1 1, 1, .inr (.inl (wj ((if r.1 = 0 then up f 0 (nm r.2) else f))))))]) (wc := wM (g.1, g.2.1, adm) M) (wc' := wM (g.1, g.2.1, adm) (t.2)) (w' := wX (g.1, g.2.1, adx) X N T Rd Fr Ac Ch PS Ly Pa OT Ea Ga Im0 Im1 ++ (wM (g.1, g.2.1, adm) (t.2) ++ [(o9, .inl (g.2.1 1, 1, .inr (.inl (wj ((if r.1 = 0 then up f 0 (nm r.2) else f))))))])) (r := zI t.1) cx (tM_line h2) dW_405 408 rfl kl_M_line ql_1590 ql_1591 ql_1592 rfl e_M rfl (z_pm1 _ _ _) (z_pm2 _ _ _) ⟨rfl, rfl⟩ ⟨Nat.le_of_ble_eq_true rfl, Nat.le_of_ble_eq_true rfl⟩ rfl rfl (Nat.le_of_ble_eq_true rfl) ⟨by show nc + 1 ≤ 601024; omega, by show ns + 6 ≤ 7293034; omega⟩ ?_
  refine y_istore cx dW_408 410 rfl (by decide) (lv' := [(6, .int (zI t.1)), (5, .int (zI r.1)), (0, .ref b), (1, .ref (adx 0)), (2, .ref (adm 0)), (3, .ref o9), (4, .int (zI i))]) rfl ?_
  refine z_aload_n cx dW_410 411 rfl rfl 4 rfl ?_
  refine z_callF (As := []) (rest := []) (rm := zr0) (wr := wX (g.1, g.2.1, adx) X N T Rd Fr Ac Ch PS Ly Pa OT Ea Ga Im0 Im1 ++ [(o9, .inl (g.2.1 1, 1, .inr (.inl (wj ((if r.1 = 0 then up f 0 (nm r.2) else f))))))]) (wc := wM (g.1, g.2.1, adm) (t.2)) (wc' := wM (g.1, g.2.1, adm) (t.2)) (w' := wX (g.1, g.2.1, adx) X N T Rd Fr Ac Ch PS Ly Pa OT Ea Ga Im0 Im1 ++ (wM (g.1, g.2.1, adm) (t.2) ++ [(o9, .inl (g.2.1 1, 1, .inr (.inl (wj ((if r.1 = 0 then up f 0 (nm r.2) else f))))))])) (r := zI r.1) cx (tM_thrown hth) dW_411 414 rfl kl_M_thrown ql_1339 ql_1340 ql_1341 rfl e_M rfl (z_pm1 _ _ _) (z_pm2 _ _ _) ⟨rfl, rfl⟩ ⟨Nat.le_of_ble_eq_true rfl, Nat.le_of_ble_eq_true rfl⟩ rfl rfl (Nat.le_of_ble_eq_true rfl) ⟨by show nc + 1 ≤ 601024; omega, by show ns + 6 ≤ 7293034; omega⟩ ?_
  refine z_iload cx dW_414 416 rfl 1 rfl ?_
  refine z_icmp_eq cx dW_416 419 rfl 421 (by decide) (fun _ => ?_) (fun h => absurd rfl h)
  refine z_iload cx dW_421 423 rfl 1 rfl ?_
  rcases hr with hr0 | hr1
  · refine z_if_ne cx dW_423 426 rfl 438 (by decide) (fun h => absurd (by rw [hr0]; rfl) h) (fun _ => ?_)
    refine z_aload_n cx dW_426 427 rfl rfl 5 rfl ?_
    refine y_iconst cx dW_427 428 rfl ?_
    refine z_loutl (wr := wX (g.1, g.2.1, adx) X N T Rd Fr Ac Ch PS Ly Pa OT Ea Ga Im0 Im1 ++ wM (g.1, g.2.1, adm) (t.2)) (f := (if r.1 = 0 then up f 0 (nm r.2) else f)) cx dW_428 429 rfl (List.append_assoc _ _ _).symm ?_
    refine z_iload cx dW_429 431 rfl 0 rfl ?_
    refine y_i2l cx dW_431 432 rfl ?_
    refine y_lcmp cx dW_432 433 rfl ?_
    refine z_if_eq cx dW_433 436 rfl 438 (by decide) (fun _ => ?_) (fun h => absurd (zlc_0 (by rw [if_pos hr0]; exact hv hr0)) h)
    refine z_goto cx dW_438 1360 (by decide) ?_
    refine z_widen (k := nc + 5) (n := ns + 105) (by show nc + 1 ≤ nc + 5; omega) (by show ns + 6 ≤ ns + 105; omega) ?_
    refine z_sub [2, 3, 4, 5, 6] rfl ?_
    exact next _ _ _ _ _ _ _ _ _ _ _ _ _ Im0 Im1 _ _ hJ
  · refine z_if_ne cx dW_423 426 rfl 438 (by decide) (fun _ => ?_) (fun h => absurd h (by rw [hr1]; decide))
    refine z_goto cx dW_438 1360 (by decide) ?_
    refine z_widen (k := nc + 5) (n := ns + 105) (by show nc + 1 ≤ nc + 5; omega) (by show ns + 6 ≤ ns + 105; omega) ?_
    refine z_sub [2, 3, 4, 5, 6] rfl ?_
    exact next _ _ _ _ _ _ _ _ _ _ _ _ _ Im0 Im1 _ _ hJ
set_option maxHeartbeats 4000000 in
theorem lawC_6 {p : Program} {l : Launch} {e : Env} {s : State} {m : MethodId} {args : Array Value} {below : List Frame} {meth : Method} {c : Code} {A : Nat → Prop} {g : ZG} {Q : State → Prop} {ks : ZS} {adx adm : Nat → Nat} {o9 b L nc ns : Nat} {xs : Nat → Int32} {f : Nat → Int} {i : Int} {X : ZB} {N : ZB} {T : ZB} {Rd : ZB} {Fr : ZB} {Ac : ZA} {Ch : ZB} {PS : ZB} {Ly : ZB} {Pa : ZQ} {OT : ZB} {Ea : ZB} {Ga : ZB} {Im0 : ZO} {Im1 : ZO} {M : ZB} {INV : ZB → ZB → ZB → ZB → ZB → ZA → ZB → ZB → ZB → ZQ → ZB → ZB → ZB → Option ZB → Option ZB → ZB → Prop} (cx : zC p s m args meth c code "ForestPacksLaw" 7 A s.heap g ret) (hE : zE ks A s) (hl9 : l.stackTraces = false) (hX : va_X b L xs s s.heap) (hbl : b < s.heap.size) (hbA : ¬ A b) (hL : L ≤ 3072) (hi : 0 ≤ i ∧ i + 6 ≤ L) (hnc : nc + 5 ≤ 601024) (hns : ns + 105 ≤ 7293034) (hI : INV X N T Rd Fr Ac Ch PS Ly Pa OT Ea Ga (cont Im0) (cont Im1) M) (hS : Sim6 INV) (next : ∀ (X : ZB) (N : ZB) (T : ZB) (Rd : ZB) (Fr : ZB) (Ac : ZA) (Ch : ZB) (PS : ZB) (Ly : ZB) (Pa : ZQ) (OT : ZB) (Ea : ZB) (Ga : ZB) (q0 q1 : ZO) (M : ZB) (f : Nat → Int), INV X N T Rd Fr Ac Ch PS Ly Pa OT Ea Ga (cont q0) (cont q1) M → V p l e room_1 s m args below meth c A s.heap g 7 Q (wX (g.1, g.2.1, adx) X N T Rd Fr Ac Ch PS Ly Pa OT Ea Ga q0 q1 ++ (wM (g.1, g.2.1, adm) M ++ [(o9, .inl (g.2.1 1, 1, .inr (.inl (wj (f)))))])) (nc + 5) (ns + 105) [(0, .ref b), (1, .ref (adx 0)), (2, .ref (adm 0)), (3, .ref o9), (4, .int (zI i))] 1360 []) : V p l e room_1 s m args below meth c A s.heap g 7 Q (wX (g.1, g.2.1, adx) X N T Rd Fr Ac Ch PS Ly Pa OT Ea Ga Im0 Im1 ++ (wM (g.1, g.2.1, adm) M ++ [(o9, .inl (g.2.1 1, 1, .inr (.inl (wj (f)))))])) (nc) (ns) [(0, .ref b), (1, .ref (adx 0)), (2, .ref (adm 0)), (3, .ref o9), (4, .int (zI i))] 441 [] := by
  obtain ⟨r, t, h1, h2, hr, hth, hv, hJ⟩ := hS _ _ _ _ _ _ _ _ _ _ _ _ _ _ _ _ (zsc xs (i + 1)) (zsc xs (i + 2)) hI (zsc_r xs _) (zsc_r xs _)
  refine z_aload_n cx dW_441 442 rfl rfl 1 rfl ?_
  refine z_aload_n cx dW_442 443 rfl rfl 0 rfl ?_
  refine z_iload cx dW_443 445 rfl 4 rfl ?_
  refine y_iconst cx dW_445 446 rfl ?_
  refine y_iadd cx dW_446 447 rfl ?_
  refine z_sld cx hX hbl hbA (by omega) hL dW_447 448 rfl ?_
  refine z_aload_n cx dW_448 449 rfl rfl 0 rfl ?_
  refine z_iload cx dW_449 451 rfl 4 rfl ?_
  refine y_iconst cx dW_451 452 rfl ?_
  refine y_iadd cx dW_452 453 rfl ?_
  refine z_sld cx hX hbl hbA (by omega) hL dW_453 454 rfl ?_
  refine z_aload_n cx dW_454 455 rfl rfl 3 rfl ?_
  refine z_callFw (n := 4) (As := [.ref (adx 0), .int (zI (zsc xs (i + 1))), .int (zI (zsc xs (i + 2))), .ref o9]) (rest := []) (rm := zrL_ring) (wr := wM (g.1, g.2.1, adm) M) (wc := wX (g.1, g.2.1, adx) X N T Rd Fr Ac Ch PS Ly Pa OT Ea Ga Im0 Im1 ++ [(o9, .inl (g.2.1 1, 1, .inr (.inl (wj (f)))))]) (wc' := wX (g.1, g.2.1, adx) X N T Rd Fr Ac (r.2.2) PS Ly Pa OT Ea Ga Im0 Im1 ++ [(o9, .inl (g.2.1 1, 1, .inr (.inl (wj ((if r.1 = 0 then up f 0 (nm r.2.1) else f))))))]) (w' := wX (g.1, g.2.1, adx) X N T Rd Fr Ac (r.2.2) PS Ly Pa OT Ea Ga Im0 Im1 ++ (wM (g.1, g.2.1, adm) M ++ [(o9, .inl (g.2.1 1, 1, .inr (.inl (wj ((if r.1 = 0 then up f 0 (nm r.2.1) else f))))))])) cx hE (tL_ring h1 hl9) dW_455 458 rfl qw_1332 ql_111 (by decide +kernel) ql_1330 ql_1331 (List.perm_append_comm_assoc _ _ _) (List.perm_append_comm_assoc _ _ _) ⟨Nat.le_of_ble_eq_true rfl, Nat.le_of_ble_eq_true rfl⟩ rfl rfl (Nat.le_of_ble_eq_true rfl) ⟨by show nc + 1 ≤ 601024; omega, by show ns + 6 ≤ 7293034; omega⟩ ?_
  refine y_istore cx dW_458 460 rfl (by decide) (lv' := [(5, .int (zI r.1)), (0, .ref b), (1, .ref (adx 0)), (2, .ref (adm 0)), (3, .ref o9), (4, .int (zI i))]) rfl ?_
  refine z_aload_n cx dW_460 461 rfl rfl 3 rfl ?_
  refine z_aload_n cx dW_461 462 rfl rfl 1 rfl ?_
  refine z_iload cx dW_462 464 rfl 5 rfl ?_
  refine y_iconst cx dW_464 465 rfl ?_
  refine y_iadd cx dW_465 466 rfl ?_
  refine z_sld cx hX hbl hbA (by omega) hL dW_466 467 rfl ?_
  refine z_aload_n cx dW_467 468 rfl rfl 1 rfl ?_
  refine z_iload cx dW_468 470 rfl 5 rfl ?_
  refine y_iconst cx dW_470 471 rfl ?_
  refine y_iadd cx dW_471 472 rfl ?_
  refine z_sld cx hX hbl hbA (by omega) hL dW_472 473 rfl ?_
  refine z_callF (As := [.int (zI (zsc xs (i + 1))), .int (zI (zsc xs (i + 2)))]) (rest := []) (rm := zrM_ring) (wr := wX (g.1, g.2.1, adx) X N T Rd Fr Ac (r.2.2) PS Ly Pa OT Ea Ga Im0 Im1 ++ [(o9, .inl (g.2.1 1, 1, .inr (.inl (wj ((if r.1 = 0 then up f 0 (nm r.2.1) else f))))))]) (wc := wM (g.1, g.2.1, adm) M) (wc' := wM (g.1, g.2.1, adm) (t.2)) (w' := wX (g.1, g.2.1, adx) X N T Rd Fr Ac (r.2.2) PS Ly Pa OT Ea Ga Im0 Im1 ++ (wM (g.1, g.2.1, adm) (t.2) ++ [(o9, .inl (g.2.1 1, 1, .inr (.inl (wj ((if r.1 = 0 then up f 0 (nm r.2.1) else f))))))])) (r := zI t.1) cx (tM_ring h2) dW_473 476 rfl kl_M_ring ql_1602 ql_1603 ql_1604 rfl e_M rfl (z_pm1 _ _ _) (z_pm2 _ _ _) ⟨rfl, rfl⟩ ⟨Nat.le_of_ble_eq_true rfl, Nat.le_of_ble_eq_true rfl⟩ rfl rfl (Nat.le_of_ble_eq_true rfl) ⟨by show nc + 1 ≤ 601024; omega, by show ns + 6 ≤ 7293034; omega⟩ ?_
  refine y_istore cx dW_476 478 rfl (by decide) (lv' := [(6, .int (zI t.1)), (5, .int (zI r.1)), (0, .ref b), (1, .ref (adx 0)), (2, .ref (adm 0)), (3, .ref o9), (4, .int (zI i))]) rfl ?_
  refine z_aload_n cx dW_478 479 rfl rfl 4 rfl ?_
  refine z_callF (As := []) (rest := []) (rm := zr0) (wr := wX (g.1, g.2.1, adx) X N T Rd Fr Ac (r.2.2) PS Ly Pa OT Ea Ga Im0 Im1 ++ [(o9, .inl (g.2.1 1, 1, .inr (.inl (wj ((if r.1 = 0 then up f 0 (nm r.2.1) else f))))))]) (wc := wM (g.1, g.2.1, adm) (t.2)) (wc' := wM (g.1, g.2.1, adm) (t.2)) (w' := wX (g.1, g.2.1, adx) X N T Rd Fr Ac (r.2.2) PS Ly Pa OT Ea Ga Im0 Im1 ++ (wM (g.1, g.2.1, adm) (t.2) ++ [(o9, .inl (g.2.1 1, 1, .inr (.inl (wj ((if r.1 = 0 then up f 0 (nm r.2.1) else f))))))])) (r := zI r.1) cx (tM_thrown hth) dW_479 482 rfl kl_M_thrown ql_1339 ql_1340 ql_1341 rfl e_M rfl (z_pm1 _ _ _) (z_pm2 _ _ _) ⟨rfl, rfl⟩ ⟨Nat.le_of_ble_eq_true rfl, Nat.le_of_ble_eq_true rfl⟩ rfl rfl (Nat.le_of_ble_eq_true rfl) ⟨by show nc + 1 ≤ 601024; omega, by show ns + 6 ≤ 7293034; omega⟩ ?_
  refine z_iload cx dW_482 484 rfl 1 rfl ?_
  refine z_icmp_eq cx dW_484 487 rfl 489 (by decide) (fun _ => ?_) (fun h => absurd rfl h)
  refine z_iload cx dW_489 491 rfl 1 rfl ?_
  rcases hr with hr0 | hr1
  · refine z_if_ne cx dW_491 494 rfl 506 (by decide) (fun h => absurd (by rw [hr0]; rfl) h) (fun _ => ?_)
    refine z_aload_n cx dW_494 495 rfl rfl 5 rfl ?_
    refine y_iconst cx dW_495 496 rfl ?_
    refine z_loutl (wr := wX (g.1, g.2.1, adx) X N T Rd Fr Ac (r.2.2) PS Ly Pa OT Ea Ga Im0 Im1 ++ wM (g.1, g.2.1, adm) (t.2)) (f := (if r.1 = 0 then up f 0 (nm r.2.1) else f)) cx dW_496 497 rfl (List.append_assoc _ _ _).symm ?_
    refine z_iload cx dW_497 499 rfl 0 rfl ?_
    refine y_i2l cx dW_499 500 rfl ?_
    refine y_lcmp cx dW_500 501 rfl ?_
    refine z_if_eq cx dW_501 504 rfl 506 (by decide) (fun _ => ?_) (fun h => absurd (zlc_0 (by rw [if_pos hr0]; exact hv hr0)) h)
    refine z_goto cx dW_506 1360 (by decide) ?_
    refine z_widen (k := nc + 5) (n := ns + 105) (by show nc + 1 ≤ nc + 5; omega) (by show ns + 6 ≤ ns + 105; omega) ?_
    refine z_sub [2, 3, 4, 5, 6] rfl ?_
    exact next _ _ _ _ _ _ _ _ _ _ _ _ _ Im0 Im1 _ _ hJ
  · refine z_if_ne cx dW_491 494 rfl 506 (by decide) (fun _ => ?_) (fun h => absurd h (by rw [hr1]; decide))
    refine z_goto cx dW_506 1360 (by decide) ?_
    refine z_widen (k := nc + 5) (n := ns + 105) (by show nc + 1 ≤ nc + 5; omega) (by show ns + 6 ≤ ns + 105; omega) ?_
    refine z_sub [2, 3, 4, 5, 6] rfl ?_
    exact next _ _ _ _ _ _ _ _ _ _ _ _ _ Im0 Im1 _ _ hJ
set_option maxHeartbeats 4000000 in
theorem lawC_7 {p : Program} {l : Launch} {e : Env} {s : State} {m : MethodId} {args : Array Value} {below : List Frame} {meth : Method} {c : Code} {A : Nat → Prop} {g : ZG} {Q : State → Prop} {ks : ZS} {adx adm : Nat → Nat} {o9 b L nc ns : Nat} {xs : Nat → Int32} {f : Nat → Int} {i : Int} {X : ZB} {N : ZB} {T : ZB} {Rd : ZB} {Fr : ZB} {Ac : ZA} {Ch : ZB} {PS : ZB} {Ly : ZB} {Pa : ZQ} {OT : ZB} {Ea : ZB} {Ga : ZB} {Im0 : ZO} {Im1 : ZO} {M : ZB} {INV : ZB → ZB → ZB → ZB → ZB → ZA → ZB → ZB → ZB → ZQ → ZB → ZB → ZB → Option ZB → Option ZB → ZB → Prop} (cx : zC p s m args meth c code "ForestPacksLaw" 7 A s.heap g ret) (hE : zE ks A s) (hl9 : l.stackTraces = false) (hX : va_X b L xs s s.heap) (hbl : b < s.heap.size) (hbA : ¬ A b) (hL : L ≤ 3072) (hi : 0 ≤ i ∧ i + 6 ≤ L) (hnc : nc + 5 ≤ 601024) (hns : ns + 105 ≤ 7293034) (hI : INV X N T Rd Fr Ac Ch PS Ly Pa OT Ea Ga (cont Im0) (cont Im1) M) (hS : Sim7 INV) (next : ∀ (X : ZB) (N : ZB) (T : ZB) (Rd : ZB) (Fr : ZB) (Ac : ZA) (Ch : ZB) (PS : ZB) (Ly : ZB) (Pa : ZQ) (OT : ZB) (Ea : ZB) (Ga : ZB) (q0 q1 : ZO) (M : ZB) (f : Nat → Int), INV X N T Rd Fr Ac Ch PS Ly Pa OT Ea Ga (cont q0) (cont q1) M → V p l e room_1 s m args below meth c A s.heap g 7 Q (wX (g.1, g.2.1, adx) X N T Rd Fr Ac Ch PS Ly Pa OT Ea Ga q0 q1 ++ (wM (g.1, g.2.1, adm) M ++ [(o9, .inl (g.2.1 1, 1, .inr (.inl (wj (f)))))])) (nc + 5) (ns + 105) [(0, .ref b), (1, .ref (adx 0)), (2, .ref (adm 0)), (3, .ref o9), (4, .int (zI i))] 1360 []) : V p l e room_1 s m args below meth c A s.heap g 7 Q (wX (g.1, g.2.1, adx) X N T Rd Fr Ac Ch PS Ly Pa OT Ea Ga Im0 Im1 ++ (wM (g.1, g.2.1, adm) M ++ [(o9, .inl (g.2.1 1, 1, .inr (.inl (wj (f)))))])) (nc) (ns) [(0, .ref b), (1, .ref (adx 0)), (2, .ref (adm 0)), (3, .ref o9), (4, .int (zI i))] 509 [] := by
  obtain ⟨r, t, h1, h2, he, hJ⟩ := hS _ _ _ _ _ _ _ _ _ _ _ _ _ _ _ _ (zsc xs (i + 1)) hI (zsc_r xs _)
  refine z_aload_n cx dW_509 510 rfl rfl 1 rfl ?_
  refine z_aload_n cx dW_510 511 rfl rfl 0 rfl ?_
  refine z_iload cx dW_511 513 rfl 4 rfl ?_
  refine y_iconst cx dW_513 514 rfl ?_
  refine y_iadd cx dW_514 515 rfl ?_
  refine z_sld cx hX hbl hbA (by omega) hL dW_515 516 rfl ?_
  refine z_callF (As := [.int (zI (zsc xs (i + 1)))]) (rest := []) (rm := zrX_forest) (wr := wM (g.1, g.2.1, adm) M ++ [(o9, .inl (g.2.1 1, 1, .inr (.inl (wj (f)))))]) (wc := wX (g.1, g.2.1, adx) X N T Rd Fr Ac Ch PS Ly Pa OT Ea Ga Im0 Im1) (wc' := wX (g.1, g.2.1, adx) X N T Rd Fr Ac Ch PS Ly Pa OT Ea Ga Im0 Im1) (w' := wX (g.1, g.2.1, adx) X N T Rd Fr Ac Ch PS Ly Pa OT Ea Ga Im0 Im1 ++ (wM (g.1, g.2.1, adm) M ++ [(o9, .inl (g.2.1 1, 1, .inr (.inl (wj (f)))))])) (r := zI r) cx (tX_forest h1) dW_516 519 rfl kl_X_forest ql_720 ql_721 ql_722 rfl e_X rfl List.perm_append_comm List.perm_append_comm ⟨rfl, rfl⟩ ⟨Nat.le_of_ble_eq_true rfl, Nat.le_of_ble_eq_true rfl⟩ rfl rfl (Nat.le_of_ble_eq_true rfl) ⟨by show nc ≤ 601024; omega, by show ns ≤ 7293034; omega⟩ ?_
  refine z_aload_n cx dW_519 520 rfl rfl 2 rfl ?_
  refine z_aload_n cx dW_520 521 rfl rfl 0 rfl ?_
  refine z_iload cx dW_521 523 rfl 4 rfl ?_
  refine y_iconst cx dW_523 524 rfl ?_
  refine y_iadd cx dW_524 525 rfl ?_
  refine z_sld cx hX hbl hbA (by omega) hL dW_525 526 rfl ?_
  refine z_callF (As := [.int (zI (zsc xs (i + 1)))]) (rest := [.int (zI r)]) (rm := zrM_forest) (wr := wX (g.1, g.2.1, adx) X N T Rd Fr Ac Ch PS Ly Pa OT Ea Ga Im0 Im1 ++ [(o9, .inl (g.2.1 1, 1, .inr (.inl (wj (f)))))]) (wc := wM (g.1, g.2.1, adm) M) (wc' := wM (g.1, g.2.1, adm) (t.2)) (w' := wX (g.1, g.2.1, adx) X N T Rd Fr Ac Ch PS Ly Pa OT Ea Ga Im0 Im1 ++ (wM (g.1, g.2.1, adm) (t.2) ++ [(o9, .inl (g.2.1 1, 1, .inr (.inl (wj (f)))))])) (r := zI t.1) cx (tM_forest h2) dW_526 529 rfl kl_M_forest ql_1633 ql_1634 ql_1635 rfl e_M rfl (z_pm1 _ _ _) (z_pm2 _ _ _) ⟨rfl, rfl⟩ ⟨Nat.le_of_ble_eq_true rfl, Nat.le_of_ble_eq_true rfl⟩ rfl rfl (Nat.le_of_ble_eq_true rfl) ⟨by show nc ≤ 601024; omega, by show ns ≤ 7293034; omega⟩ ?_
  refine z_icmp_eq cx dW_529 532 rfl 1360 (by decide) (fun _ => ?_) (fun h => absurd (congrArg zI he) h)
  refine z_widen (k := nc + 5) (n := ns + 105) (by show nc ≤ nc + 5; omega) (by show ns ≤ ns + 105; omega) ?_
  exact next _ _ _ _ _ _ _ _ _ _ _ _ _ Im0 Im1 _ _ hJ
set_option maxHeartbeats 4000000 in
theorem lawC_8 {p : Program} {l : Launch} {e : Env} {s : State} {m : MethodId} {args : Array Value} {below : List Frame} {meth : Method} {c : Code} {A : Nat → Prop} {g : ZG} {Q : State → Prop} {ks : ZS} {adx adm : Nat → Nat} {o9 b L nc ns : Nat} {xs : Nat → Int32} {f : Nat → Int} {i : Int} {X : ZB} {N : ZB} {T : ZB} {Rd : ZB} {Fr : ZB} {Ac : ZA} {Ch : ZB} {PS : ZB} {Ly : ZB} {Pa : ZQ} {OT : ZB} {Ea : ZB} {Ga : ZB} {Im0 : ZO} {Im1 : ZO} {M : ZB} {INV : ZB → ZB → ZB → ZB → ZB → ZA → ZB → ZB → ZB → ZQ → ZB → ZB → ZB → Option ZB → Option ZB → ZB → Prop} (cx : zC p s m args meth c code "ForestPacksLaw" 7 A s.heap g ret) (hE : zE ks A s) (hl9 : l.stackTraces = false) (hX : va_X b L xs s s.heap) (hbl : b < s.heap.size) (hbA : ¬ A b) (hL : L ≤ 3072) (hi : 0 ≤ i ∧ i + 6 ≤ L) (hnc : nc + 5 ≤ 601024) (hns : ns + 105 ≤ 7293034) (hI : INV X N T Rd Fr Ac Ch PS Ly Pa OT Ea Ga (cont Im0) (cont Im1) M) (hS : Sim8 INV) (next : ∀ (X : ZB) (N : ZB) (T : ZB) (Rd : ZB) (Fr : ZB) (Ac : ZA) (Ch : ZB) (PS : ZB) (Ly : ZB) (Pa : ZQ) (OT : ZB) (Ea : ZB) (Ga : ZB) (q0 q1 : ZO) (M : ZB) (f : Nat → Int), INV X N T Rd Fr Ac Ch PS Ly Pa OT Ea Ga (cont q0) (cont q1) M → V p l e room_1 s m args below meth c A s.heap g 7 Q (wX (g.1, g.2.1, adx) X N T Rd Fr Ac Ch PS Ly Pa OT Ea Ga q0 q1 ++ (wM (g.1, g.2.1, adm) M ++ [(o9, .inl (g.2.1 1, 1, .inr (.inl (wj (f)))))])) (nc + 5) (ns + 105) [(0, .ref b), (1, .ref (adx 0)), (2, .ref (adm 0)), (3, .ref o9), (4, .int (zI i))] 1360 []) : V p l e room_1 s m args below meth c A s.heap g 7 Q (wX (g.1, g.2.1, adx) X N T Rd Fr Ac Ch PS Ly Pa OT Ea Ga Im0 Im1 ++ (wM (g.1, g.2.1, adm) M ++ [(o9, .inl (g.2.1 1, 1, .inr (.inl (wj (f)))))])) (nc) (ns) [(0, .ref b), (1, .ref (adx 0)), (2, .ref (adm 0)), (3, .ref o9), (4, .int (zI i))] 534 [] := by
  obtain ⟨r, t, h1, h2, he, hJ⟩ := hS _ _ _ _ _ _ _ _ _ _ _ _ _ _ _ _ (zsc xs (i + 1)) hI (zsc_r xs _)
  refine z_aload_n cx dW_534 535 rfl rfl 1 rfl ?_
  refine z_aload_n cx dW_535 536 rfl rfl 0 rfl ?_
  refine z_iload cx dW_536 538 rfl 4 rfl ?_
  refine y_iconst cx dW_538 539 rfl ?_
  refine y_iadd cx dW_539 540 rfl ?_
  refine z_sld cx hX hbl hbA (by omega) hL dW_540 541 rfl ?_
  refine z_callF (As := [.int (zI (zsc xs (i + 1)))]) (rest := []) (rm := zrX_now) (wr := wM (g.1, g.2.1, adm) M ++ [(o9, .inl (g.2.1 1, 1, .inr (.inl (wj (f)))))]) (wc := wX (g.1, g.2.1, adx) X N T Rd Fr Ac Ch PS Ly Pa OT Ea Ga Im0 Im1) (wc' := wX (g.1, g.2.1, adx) X N T Rd Fr Ac Ch PS Ly Pa OT Ea Ga Im0 Im1) (w' := wX (g.1, g.2.1, adx) X N T Rd Fr Ac Ch PS Ly Pa OT Ea Ga Im0 Im1 ++ (wM (g.1, g.2.1, adm) M ++ [(o9, .inl (g.2.1 1, 1, .inr (.inl (wj (f)))))])) (r := zI r) cx (tX_now h1) dW_541 544 rfl kl_X_now ql_732 ql_733 ql_734 rfl e_X rfl List.perm_append_comm List.perm_append_comm ⟨rfl, rfl⟩ ⟨Nat.le_of_ble_eq_true rfl, Nat.le_of_ble_eq_true rfl⟩ rfl rfl (Nat.le_of_ble_eq_true rfl) ⟨by show nc ≤ 601024; omega, by show ns ≤ 7293034; omega⟩ ?_
  refine z_aload_n cx dW_544 545 rfl rfl 2 rfl ?_
  refine z_aload_n cx dW_545 546 rfl rfl 0 rfl ?_
  refine z_iload cx dW_546 548 rfl 4 rfl ?_
  refine y_iconst cx dW_548 549 rfl ?_
  refine y_iadd cx dW_549 550 rfl ?_
  refine z_sld cx hX hbl hbA (by omega) hL dW_550 551 rfl ?_
  refine z_callF (As := [.int (zI (zsc xs (i + 1)))]) (rest := [.int (zI r)]) (rm := zrM_now) (wr := wX (g.1, g.2.1, adx) X N T Rd Fr Ac Ch PS Ly Pa OT Ea Ga Im0 Im1 ++ [(o9, .inl (g.2.1 1, 1, .inr (.inl (wj (f)))))]) (wc := wM (g.1, g.2.1, adm) M) (wc' := wM (g.1, g.2.1, adm) (t.2)) (w' := wX (g.1, g.2.1, adx) X N T Rd Fr Ac Ch PS Ly Pa OT Ea Ga Im0 Im1 ++ (wM (g.1, g.2.1, adm) (t.2) ++ [(o9, .inl (g.2.1 1, 1, .inr (.inl (wj (f)))))])) (r := zI t.1) cx (tM_now h2) dW_551 554 rfl kl_M_now ql_1637 ql_1638 ql_1639 rfl e_M rfl (z_pm1 _ _ _) (z_pm2 _ _ _) ⟨rfl, rfl⟩ ⟨Nat.le_of_ble_eq_true rfl, Nat.le_of_ble_eq_true rfl⟩ rfl rfl (Nat.le_of_ble_eq_true rfl) ⟨by show nc ≤ 601024; omega, by show ns ≤ 7293034; omega⟩ ?_
  refine z_icmp_eq cx dW_554 557 rfl 1360 (by decide) (fun _ => ?_) (fun h => absurd (congrArg zI he) h)
  refine z_widen (k := nc + 5) (n := ns + 105) (by show nc ≤ nc + 5; omega) (by show ns ≤ ns + 105; omega) ?_
  exact next _ _ _ _ _ _ _ _ _ _ _ _ _ Im0 Im1 _ _ hJ
set_option maxHeartbeats 4000000 in
theorem lawC_9 {p : Program} {l : Launch} {e : Env} {s : State} {m : MethodId} {args : Array Value} {below : List Frame} {meth : Method} {c : Code} {A : Nat → Prop} {g : ZG} {Q : State → Prop} {ks : ZS} {adx adm : Nat → Nat} {o9 b L nc ns : Nat} {xs : Nat → Int32} {f : Nat → Int} {i : Int} {X : ZB} {N : ZB} {T : ZB} {Rd : ZB} {Fr : ZB} {Ac : ZA} {Ch : ZB} {PS : ZB} {Ly : ZB} {Pa : ZQ} {OT : ZB} {Ea : ZB} {Ga : ZB} {Im0 : ZO} {Im1 : ZO} {M : ZB} {INV : ZB → ZB → ZB → ZB → ZB → ZA → ZB → ZB → ZB → ZQ → ZB → ZB → ZB → Option ZB → Option ZB → ZB → Prop} (cx : zC p s m args meth c code "ForestPacksLaw" 7 A s.heap g ret) (hE : zE ks A s) (hl9 : l.stackTraces = false) (hX : va_X b L xs s s.heap) (hbl : b < s.heap.size) (hbA : ¬ A b) (hL : L ≤ 3072) (hi : 0 ≤ i ∧ i + 6 ≤ L) (hnc : nc + 5 ≤ 601024) (hns : ns + 105 ≤ 7293034) (hI : INV X N T Rd Fr Ac Ch PS Ly Pa OT Ea Ga (cont Im0) (cont Im1) M) (hS : Sim9 INV) (next : ∀ (X : ZB) (N : ZB) (T : ZB) (Rd : ZB) (Fr : ZB) (Ac : ZA) (Ch : ZB) (PS : ZB) (Ly : ZB) (Pa : ZQ) (OT : ZB) (Ea : ZB) (Ga : ZB) (q0 q1 : ZO) (M : ZB) (f : Nat → Int), INV X N T Rd Fr Ac Ch PS Ly Pa OT Ea Ga (cont q0) (cont q1) M → V p l e room_1 s m args below meth c A s.heap g 7 Q (wX (g.1, g.2.1, adx) X N T Rd Fr Ac Ch PS Ly Pa OT Ea Ga q0 q1 ++ (wM (g.1, g.2.1, adm) M ++ [(o9, .inl (g.2.1 1, 1, .inr (.inl (wj (f)))))])) (nc + 5) (ns + 105) [(0, .ref b), (1, .ref (adx 0)), (2, .ref (adm 0)), (3, .ref o9), (4, .int (zI i))] 1360 []) : V p l e room_1 s m args below meth c A s.heap g 7 Q (wX (g.1, g.2.1, adx) X N T Rd Fr Ac Ch PS Ly Pa OT Ea Ga Im0 Im1 ++ (wM (g.1, g.2.1, adm) M ++ [(o9, .inl (g.2.1 1, 1, .inr (.inl (wj (f)))))])) (nc) (ns) [(0, .ref b), (1, .ref (adx 0)), (2, .ref (adm 0)), (3, .ref o9), (4, .int (zI i))] 559 [] := by
  obtain ⟨r, t, h1, h2, he, hJ⟩ := hS _ _ _ _ _ _ _ _ _ _ _ _ _ _ _ _ (zsc xs (i + 1)) (zsc xs (i + 2)) hI (zsc_r xs _) (zsc_r xs _)
  refine z_aload_n cx dW_559 560 rfl rfl 1 rfl ?_
  refine z_aload_n cx dW_560 561 rfl rfl 0 rfl ?_
  refine z_iload cx dW_561 563 rfl 4 rfl ?_
  refine y_iconst cx dW_563 564 rfl ?_
  refine y_iadd cx dW_564 565 rfl ?_
  refine z_sld cx hX hbl hbA (by omega) hL dW_565 566 rfl ?_
  refine z_aload_n cx dW_566 567 rfl rfl 0 rfl ?_
  refine z_iload cx dW_567 569 rfl 4 rfl ?_
  refine y_iconst cx dW_569 570 rfl ?_
  refine y_iadd cx dW_570 571 rfl ?_
  refine z_sld cx hX hbl hbA (by omega) hL dW_571 572 rfl ?_
  refine z_callF (As := [.int (zI (zsc xs (i + 1))), .int (zI (zsc xs (i + 2)))]) (rest := []) (rm := zrX_put) (wr := wM (g.1, g.2.1, adm) M ++ [(o9, .inl (g.2.1 1, 1, .inr (.inl (wj (f)))))]) (wc := wX (g.1, g.2.1, adx) X N T Rd Fr Ac Ch PS Ly Pa OT Ea Ga Im0 Im1) (wc' := wX (g.1, g.2.1, adx) X (r.2.1) T Rd Fr (r.2.2.1) (r.2.2.2) PS Ly Pa OT Ea Ga Im0 Im1) (w' := wX (g.1, g.2.1, adx) X (r.2.1) T Rd Fr (r.2.2.1) (r.2.2.2) PS Ly Pa OT Ea Ga Im0 Im1 ++ (wM (g.1, g.2.1, adm) M ++ [(o9, .inl (g.2.1 1, 1, .inr (.inl (wj (f)))))])) (r := zI r.1) cx (tX_put h1) dW_572 575 rfl kl_X_put ql_768 ql_769 ql_770 rfl e_X rfl List.perm_append_comm List.perm_append_comm ⟨rfl, rfl⟩ ⟨Nat.le_of_ble_eq_true rfl, Nat.le_of_ble_eq_true rfl⟩ rfl rfl (Nat.le_of_ble_eq_true rfl) ⟨by show nc ≤ 601024; omega, by show ns ≤ 7293034; omega⟩ ?_
  refine z_aload_n cx dW_575 576 rfl rfl 2 rfl ?_
  refine z_aload_n cx dW_576 577 rfl rfl 0 rfl ?_
  refine z_iload cx dW_577 579 rfl 4 rfl ?_
  refine y_iconst cx dW_579 580 rfl ?_
  refine y_iadd cx dW_580 581 rfl ?_
  refine z_sld cx hX hbl hbA (by omega) hL dW_581 582 rfl ?_
  refine z_aload_n cx dW_582 583 rfl rfl 0 rfl ?_
  refine z_iload cx dW_583 585 rfl 4 rfl ?_
  refine y_iconst cx dW_585 586 rfl ?_
  refine y_iadd cx dW_586 587 rfl ?_
  refine z_sld cx hX hbl hbA (by omega) hL dW_587 588 rfl ?_
  refine z_callF (As := [.int (zI (zsc xs (i + 1))), .int (zI (zsc xs (i + 2)))]) (rest := [.int (zI r.1)]) (rm := zrM_put) (wr := wX (g.1, g.2.1, adx) X (r.2.1) T Rd Fr (r.2.2.1) (r.2.2.2) PS Ly Pa OT Ea Ga Im0 Im1 ++ [(o9, .inl (g.2.1 1, 1, .inr (.inl (wj (f)))))]) (wc := wM (g.1, g.2.1, adm) M) (wc' := wM (g.1, g.2.1, adm) (t.2)) (w' := wX (g.1, g.2.1, adx) X (r.2.1) T Rd Fr (r.2.2.1) (r.2.2.2) PS Ly Pa OT Ea Ga Im0 Im1 ++ (wM (g.1, g.2.1, adm) (t.2) ++ [(o9, .inl (g.2.1 1, 1, .inr (.inl (wj (f)))))])) (r := zI t.1) cx (tM_put h2) dW_588 591 rfl kl_M_put ql_1656 ql_1657 ql_1658 rfl e_M rfl (z_pm1 _ _ _) (z_pm2 _ _ _) ⟨rfl, rfl⟩ ⟨Nat.le_of_ble_eq_true rfl, Nat.le_of_ble_eq_true rfl⟩ rfl rfl (Nat.le_of_ble_eq_true rfl) ⟨by show nc ≤ 601024; omega, by show ns ≤ 7293034; omega⟩ ?_
  refine z_icmp_eq cx dW_591 594 rfl 1360 (by decide) (fun _ => ?_) (fun h => absurd (congrArg zI he) h)
  refine z_widen (k := nc + 5) (n := ns + 105) (by show nc ≤ nc + 5; omega) (by show ns ≤ ns + 105; omega) ?_
  exact next _ _ _ _ _ _ _ _ _ _ _ _ _ Im0 Im1 _ _ hJ
set_option maxHeartbeats 4000000 in
theorem lawC_10 {p : Program} {l : Launch} {e : Env} {s : State} {m : MethodId} {args : Array Value} {below : List Frame} {meth : Method} {c : Code} {A : Nat → Prop} {g : ZG} {Q : State → Prop} {ks : ZS} {adx adm : Nat → Nat} {o9 b L nc ns : Nat} {xs : Nat → Int32} {f : Nat → Int} {i : Int} {X : ZB} {N : ZB} {T : ZB} {Rd : ZB} {Fr : ZB} {Ac : ZA} {Ch : ZB} {PS : ZB} {Ly : ZB} {Pa : ZQ} {OT : ZB} {Ea : ZB} {Ga : ZB} {Im0 : ZO} {Im1 : ZO} {M : ZB} {INV : ZB → ZB → ZB → ZB → ZB → ZA → ZB → ZB → ZB → ZQ → ZB → ZB → ZB → Option ZB → Option ZB → ZB → Prop} (cx : zC p s m args meth c code "ForestPacksLaw" 7 A s.heap g ret) (hE : zE ks A s) (hl9 : l.stackTraces = false) (hX : va_X b L xs s s.heap) (hbl : b < s.heap.size) (hbA : ¬ A b) (hL : L ≤ 3072) (hi : 0 ≤ i ∧ i + 6 ≤ L) (hnc : nc + 5 ≤ 601024) (hns : ns + 105 ≤ 7293034) (hI : INV X N T Rd Fr Ac Ch PS Ly Pa OT Ea Ga (cont Im0) (cont Im1) M) (hS : Sim10 INV) (next : ∀ (X : ZB) (N : ZB) (T : ZB) (Rd : ZB) (Fr : ZB) (Ac : ZA) (Ch : ZB) (PS : ZB) (Ly : ZB) (Pa : ZQ) (OT : ZB) (Ea : ZB) (Ga : ZB) (q0 q1 : ZO) (M : ZB) (f : Nat → Int), INV X N T Rd Fr Ac Ch PS Ly Pa OT Ea Ga (cont q0) (cont q1) M → V p l e room_1 s m args below meth c A s.heap g 7 Q (wX (g.1, g.2.1, adx) X N T Rd Fr Ac Ch PS Ly Pa OT Ea Ga q0 q1 ++ (wM (g.1, g.2.1, adm) M ++ [(o9, .inl (g.2.1 1, 1, .inr (.inl (wj (f)))))])) (nc + 5) (ns + 105) [(0, .ref b), (1, .ref (adx 0)), (2, .ref (adm 0)), (3, .ref o9), (4, .int (zI i))] 1360 []) : V p l e room_1 s m args below meth c A s.heap g 7 Q (wX (g.1, g.2.1, adx) X N T Rd Fr Ac Ch PS Ly Pa OT Ea Ga Im0 Im1 ++ (wM (g.1, g.2.1, adm) M ++ [(o9, .inl (g.2.1 1, 1, .inr (.inl (wj (f)))))])) (nc) (ns) [(0, .ref b), (1, .ref (adx 0)), (2, .ref (adm 0)), (3, .ref o9), (4, .int (zI i))] 596 [] := by
  obtain ⟨r, t, h1, h2, he, hJ⟩ := hS _ _ _ _ _ _ _ _ _ _ _ _ _ _ _ _ (zsc xs (i + 1)) hI (zsc_r xs _)
  refine z_aload_n cx dW_596 597 rfl rfl 1 rfl ?_
  refine z_aload_n cx dW_597 598 rfl rfl 0 rfl ?_
  refine z_iload cx dW_598 600 rfl 4 rfl ?_
  refine y_iconst cx dW_600 601 rfl ?_
  refine y_iadd cx dW_601 602 rfl ?_
  refine z_sld cx hX hbl hbA (by omega) hL dW_602 603 rfl ?_
  refine z_callF (As := [.int (zI (zsc xs (i + 1)))]) (rest := []) (rm := zrX_lift) (wr := wM (g.1, g.2.1, adm) M ++ [(o9, .inl (g.2.1 1, 1, .inr (.inl (wj (f)))))]) (wc := wX (g.1, g.2.1, adx) X N T Rd Fr Ac Ch PS Ly Pa OT Ea Ga Im0 Im1) (wc' := wX (g.1, g.2.1, adx) X (r.2.1) T Rd Fr (r.2.2) Ch PS Ly Pa OT Ea Ga Im0 Im1) (w' := wX (g.1, g.2.1, adx) X (r.2.1) T Rd Fr (r.2.2) Ch PS Ly Pa OT Ea Ga Im0 Im1 ++ (wM (g.1, g.2.1, adm) M ++ [(o9, .inl (g.2.1 1, 1, .inr (.inl (wj (f)))))])) (r := zI r.1) cx (tX_lift h1) dW_603 606 rfl kl_X_lift ql_792 ql_793 ql_794 rfl e_X rfl List.perm_append_comm List.perm_append_comm ⟨rfl, rfl⟩ ⟨Nat.le_of_ble_eq_true rfl, Nat.le_of_ble_eq_true rfl⟩ rfl rfl (Nat.le_of_ble_eq_true rfl) ⟨by show nc ≤ 601024; omega, by show ns ≤ 7293034; omega⟩ ?_
  refine z_aload_n cx dW_606 607 rfl rfl 2 rfl ?_
  refine z_aload_n cx dW_607 608 rfl rfl 0 rfl ?_
  refine z_iload cx dW_608 610 rfl 4 rfl ?_
  refine y_iconst cx dW_610 611 rfl ?_
  refine y_iadd cx dW_611 612 rfl ?_
  refine z_sld cx hX hbl hbA (by omega) hL dW_612 613 rfl ?_
  refine z_callF (As := [.int (zI (zsc xs (i + 1)))]) (rest := [.int (zI r.1)]) (rm := zrM_lift) (wr := wX (g.1, g.2.1, adx) X (r.2.1) T Rd Fr (r.2.2) Ch PS Ly Pa OT Ea Ga Im0 Im1 ++ [(o9, .inl (g.2.1 1, 1, .inr (.inl (wj (f)))))]) (wc := wM (g.1, g.2.1, adm) M) (wc' := wM (g.1, g.2.1, adm) (t.2)) (w' := wX (g.1, g.2.1, adx) X (r.2.1) T Rd Fr (r.2.2) Ch PS Ly Pa OT Ea Ga Im0 Im1 ++ (wM (g.1, g.2.1, adm) (t.2) ++ [(o9, .inl (g.2.1 1, 1, .inr (.inl (wj (f)))))])) (r := zI t.1) cx (tM_lift h2) dW_613 616 rfl kl_M_lift ql_1664 ql_1665 ql_1666 rfl e_M rfl (z_pm1 _ _ _) (z_pm2 _ _ _) ⟨rfl, rfl⟩ ⟨Nat.le_of_ble_eq_true rfl, Nat.le_of_ble_eq_true rfl⟩ rfl rfl (Nat.le_of_ble_eq_true rfl) ⟨by show nc ≤ 601024; omega, by show ns ≤ 7293034; omega⟩ ?_
  refine z_icmp_eq cx dW_616 619 rfl 1360 (by decide) (fun _ => ?_) (fun h => absurd (congrArg zI he) h)
  refine z_widen (k := nc + 5) (n := ns + 105) (by show nc ≤ nc + 5; omega) (by show ns ≤ ns + 105; omega) ?_
  exact next _ _ _ _ _ _ _ _ _ _ _ _ _ Im0 Im1 _ _ hJ
set_option maxHeartbeats 4000000 in
theorem lawC_11 {p : Program} {l : Launch} {e : Env} {s : State} {m : MethodId} {args : Array Value} {below : List Frame} {meth : Method} {c : Code} {A : Nat → Prop} {g : ZG} {Q : State → Prop} {ks : ZS} {adx adm : Nat → Nat} {o9 b L nc ns : Nat} {xs : Nat → Int32} {f : Nat → Int} {i : Int} {X : ZB} {N : ZB} {T : ZB} {Rd : ZB} {Fr : ZB} {Ac : ZA} {Ch : ZB} {PS : ZB} {Ly : ZB} {Pa : ZQ} {OT : ZB} {Ea : ZB} {Ga : ZB} {Im0 : ZO} {Im1 : ZO} {M : ZB} {INV : ZB → ZB → ZB → ZB → ZB → ZA → ZB → ZB → ZB → ZQ → ZB → ZB → ZB → Option ZB → Option ZB → ZB → Prop} (cx : zC p s m args meth c code "ForestPacksLaw" 7 A s.heap g ret) (hE : zE ks A s) (hl9 : l.stackTraces = false) (hX : va_X b L xs s s.heap) (hbl : b < s.heap.size) (hbA : ¬ A b) (hL : L ≤ 3072) (hi : 0 ≤ i ∧ i + 6 ≤ L) (hnc : nc + 5 ≤ 601024) (hns : ns + 105 ≤ 7293034) (hI : INV X N T Rd Fr Ac Ch PS Ly Pa OT Ea Ga (cont Im0) (cont Im1) M) (hS : Sim11 INV) (next : ∀ (X : ZB) (N : ZB) (T : ZB) (Rd : ZB) (Fr : ZB) (Ac : ZA) (Ch : ZB) (PS : ZB) (Ly : ZB) (Pa : ZQ) (OT : ZB) (Ea : ZB) (Ga : ZB) (q0 q1 : ZO) (M : ZB) (f : Nat → Int), INV X N T Rd Fr Ac Ch PS Ly Pa OT Ea Ga (cont q0) (cont q1) M → V p l e room_1 s m args below meth c A s.heap g 7 Q (wX (g.1, g.2.1, adx) X N T Rd Fr Ac Ch PS Ly Pa OT Ea Ga q0 q1 ++ (wM (g.1, g.2.1, adm) M ++ [(o9, .inl (g.2.1 1, 1, .inr (.inl (wj (f)))))])) (nc + 5) (ns + 105) [(0, .ref b), (1, .ref (adx 0)), (2, .ref (adm 0)), (3, .ref o9), (4, .int (zI i))] 1360 []) : V p l e room_1 s m args below meth c A s.heap g 7 Q (wX (g.1, g.2.1, adx) X N T Rd Fr Ac Ch PS Ly Pa OT Ea Ga Im0 Im1 ++ (wM (g.1, g.2.1, adm) M ++ [(o9, .inl (g.2.1 1, 1, .inr (.inl (wj (f)))))])) (nc) (ns) [(0, .ref b), (1, .ref (adx 0)), (2, .ref (adm 0)), (3, .ref o9), (4, .int (zI i))] 621 [] := by
  obtain ⟨r, t, h1, h2, he, hJ⟩ := hS _ _ _ _ _ _ _ _ _ _ _ _ _ _ _ _ (zsc xs (i + 1)) hI (zsc_r xs _)
  refine z_aload_n cx dW_621 622 rfl rfl 1 rfl ?_
  refine z_aload_n cx dW_622 623 rfl rfl 0 rfl ?_
  refine z_iload cx dW_623 625 rfl 4 rfl ?_
  refine y_iconst cx dW_625 626 rfl ?_
  refine y_iadd cx dW_626 627 rfl ?_
  refine z_sld cx hX hbl hbA (by omega) hL dW_627 628 rfl ?_
  refine z_callF (As := [.int (zI (zsc xs (i + 1)))]) (rest := []) (rm := zrX_place) (wr := wM (g.1, g.2.1, adm) M ++ [(o9, .inl (g.2.1 1, 1, .inr (.inl (wj (f)))))]) (wc := wX (g.1, g.2.1, adx) X N T Rd Fr Ac Ch PS Ly Pa OT Ea Ga Im0 Im1) (wc' := wX (g.1, g.2.1, adx) X (r.2.1) T Rd Fr (r.2.2.1) (r.2.2.2) PS Ly Pa OT Ea Ga Im0 Im1) (w' := wX (g.1, g.2.1, adx) X (r.2.1) T Rd Fr (r.2.2.1) (r.2.2.2) PS Ly Pa OT Ea Ga Im0 Im1 ++ (wM (g.1, g.2.1, adm) M ++ [(o9, .inl (g.2.1 1, 1, .inr (.inl (wj (f)))))])) (r := zI r.1) cx (tX_place h1) dW_628 631 rfl kl_X_place ql_796 ql_797 ql_798 rfl e_X rfl List.perm_append_comm List.perm_append_comm ⟨rfl, rfl⟩ ⟨Nat.le_of_ble_eq_true rfl, Nat.le_of_ble_eq_true rfl⟩ rfl rfl (Nat.le_of_ble_eq_true rfl) ⟨by show nc ≤ 601024; omega, by show ns ≤ 7293034; omega⟩ ?_
  refine z_aload_n cx dW_631 632 rfl rfl 2 rfl ?_
  refine z_aload_n cx dW_632 633 rfl rfl 0 rfl ?_
  refine z_iload cx dW_633 635 rfl 4 rfl ?_
  refine y_iconst cx dW_635 636 rfl ?_
  refine y_iadd cx dW_636 637 rfl ?_
  refine z_sld cx hX hbl hbA (by omega) hL dW_637 638 rfl ?_
  refine z_callF (As := [.int (zI (zsc xs (i + 1)))]) (rest := [.int (zI r.1)]) (rm := zrM_place) (wr := wX (g.1, g.2.1, adx) X (r.2.1) T Rd Fr (r.2.2.1) (r.2.2.2) PS Ly Pa OT Ea Ga Im0 Im1 ++ [(o9, .inl (g.2.1 1, 1, .inr (.inl (wj (f)))))]) (wc := wM (g.1, g.2.1, adm) M) (wc' := wM (g.1, g.2.1, adm) (t.2)) (w' := wX (g.1, g.2.1, adx) X (r.2.1) T Rd Fr (r.2.2.1) (r.2.2.2) PS Ly Pa OT Ea Ga Im0 Im1 ++ (wM (g.1, g.2.1, adm) (t.2) ++ [(o9, .inl (g.2.1 1, 1, .inr (.inl (wj (f)))))])) (r := zI t.1) cx (tM_place h2) dW_638 641 rfl kl_M_place ql_1668 ql_1669 ql_1670 rfl e_M rfl (z_pm1 _ _ _) (z_pm2 _ _ _) ⟨rfl, rfl⟩ ⟨Nat.le_of_ble_eq_true rfl, Nat.le_of_ble_eq_true rfl⟩ rfl rfl (Nat.le_of_ble_eq_true rfl) ⟨by show nc ≤ 601024; omega, by show ns ≤ 7293034; omega⟩ ?_
  refine z_icmp_eq cx dW_641 644 rfl 1360 (by decide) (fun _ => ?_) (fun h => absurd (congrArg zI he) h)
  refine z_widen (k := nc + 5) (n := ns + 105) (by show nc ≤ nc + 5; omega) (by show ns ≤ ns + 105; omega) ?_
  exact next _ _ _ _ _ _ _ _ _ _ _ _ _ Im0 Im1 _ _ hJ
set_option maxHeartbeats 4000000 in
theorem lawC_12 {p : Program} {l : Launch} {e : Env} {s : State} {m : MethodId} {args : Array Value} {below : List Frame} {meth : Method} {c : Code} {A : Nat → Prop} {g : ZG} {Q : State → Prop} {ks : ZS} {adx adm : Nat → Nat} {o9 b L nc ns : Nat} {xs : Nat → Int32} {f : Nat → Int} {i : Int} {X : ZB} {N : ZB} {T : ZB} {Rd : ZB} {Fr : ZB} {Ac : ZA} {Ch : ZB} {PS : ZB} {Ly : ZB} {Pa : ZQ} {OT : ZB} {Ea : ZB} {Ga : ZB} {Im0 : ZO} {Im1 : ZO} {M : ZB} {INV : ZB → ZB → ZB → ZB → ZB → ZA → ZB → ZB → ZB → ZQ → ZB → ZB → ZB → Option ZB → Option ZB → ZB → Prop} (cx : zC p s m args meth c code "ForestPacksLaw" 7 A s.heap g ret) (hE : zE ks A s) (hl9 : l.stackTraces = false) (hX : va_X b L xs s s.heap) (hbl : b < s.heap.size) (hbA : ¬ A b) (hL : L ≤ 3072) (hi : 0 ≤ i ∧ i + 6 ≤ L) (hnc : nc + 5 ≤ 601024) (hns : ns + 105 ≤ 7293034) (hI : INV X N T Rd Fr Ac Ch PS Ly Pa OT Ea Ga (cont Im0) (cont Im1) M) (hS : Sim12 INV) (next : ∀ (X : ZB) (N : ZB) (T : ZB) (Rd : ZB) (Fr : ZB) (Ac : ZA) (Ch : ZB) (PS : ZB) (Ly : ZB) (Pa : ZQ) (OT : ZB) (Ea : ZB) (Ga : ZB) (q0 q1 : ZO) (M : ZB) (f : Nat → Int), INV X N T Rd Fr Ac Ch PS Ly Pa OT Ea Ga (cont q0) (cont q1) M → V p l e room_1 s m args below meth c A s.heap g 7 Q (wX (g.1, g.2.1, adx) X N T Rd Fr Ac Ch PS Ly Pa OT Ea Ga q0 q1 ++ (wM (g.1, g.2.1, adm) M ++ [(o9, .inl (g.2.1 1, 1, .inr (.inl (wj (f)))))])) (nc + 5) (ns + 105) [(0, .ref b), (1, .ref (adx 0)), (2, .ref (adm 0)), (3, .ref o9), (4, .int (zI i))] 1360 []) : V p l e room_1 s m args below meth c A s.heap g 7 Q (wX (g.1, g.2.1, adx) X N T Rd Fr Ac Ch PS Ly Pa OT Ea Ga Im0 Im1 ++ (wM (g.1, g.2.1, adm) M ++ [(o9, .inl (g.2.1 1, 1, .inr (.inl (wj (f)))))])) (nc) (ns) [(0, .ref b), (1, .ref (adx 0)), (2, .ref (adm 0)), (3, .ref o9), (4, .int (zI i))] 646 [] := by
  obtain ⟨r, t, h1, h2, he, hJ⟩ := hS _ _ _ _ _ _ _ _ _ _ _ _ _ _ _ _ (zsc xs (i + 1)) hI (zsc_r xs _)
  refine z_aload_n cx dW_646 647 rfl rfl 1 rfl ?_
  refine z_aload_n cx dW_647 648 rfl rfl 0 rfl ?_
  refine z_iload cx dW_648 650 rfl 4 rfl ?_
  refine y_iconst cx dW_650 651 rfl ?_
  refine y_iadd cx dW_651 652 rfl ?_
  refine z_sld cx hX hbl hbA (by omega) hL dW_652 653 rfl ?_
  refine z_callF (As := [.int (zI (zsc xs (i + 1)))]) (rest := []) (rm := zrX_chain) (wr := wM (g.1, g.2.1, adm) M ++ [(o9, .inl (g.2.1 1, 1, .inr (.inl (wj (f)))))]) (wc := wX (g.1, g.2.1, adx) X N T Rd Fr Ac Ch PS Ly Pa OT Ea Ga Im0 Im1) (wc' := wX (g.1, g.2.1, adx) X N T Rd Fr Ac (r.2) PS Ly Pa OT Ea Ga Im0 Im1) (w' := wX (g.1, g.2.1, adx) X N T Rd Fr Ac (r.2) PS Ly Pa OT Ea Ga Im0 Im1 ++ (wM (g.1, g.2.1, adm) M ++ [(o9, .inl (g.2.1 1, 1, .inr (.inl (wj (f)))))])) (r := zI r.1) cx (tX_chain h1) dW_653 656 rfl kl_X_chain ql_831 ql_832 ql_833 rfl e_X rfl List.perm_append_comm List.perm_append_comm ⟨rfl, rfl⟩ ⟨Nat.le_of_ble_eq_true rfl, Nat.le_of_ble_eq_true rfl⟩ rfl rfl (Nat.le_of_ble_eq_true rfl) ⟨by show nc ≤ 601024; omega, by show ns ≤ 7293034; omega⟩ ?_
  refine z_aload_n cx dW_656 657 rfl rfl 2 rfl ?_
  refine z_aload_n cx dW_657 658 rfl rfl 0 rfl ?_
  refine z_iload cx dW_658 660 rfl 4 rfl ?_
  refine y_iconst cx dW_660 661 rfl ?_
  refine y_iadd cx dW_661 662 rfl ?_
  refine z_sld cx hX hbl hbA (by omega) hL dW_662 663 rfl ?_
  refine z_callF (As := [.int (zI (zsc xs (i + 1)))]) (rest := [.int (zI r.1)]) (rm := zrM_chain) (wr := wX (g.1, g.2.1, adx) X N T Rd Fr Ac (r.2) PS Ly Pa OT Ea Ga Im0 Im1 ++ [(o9, .inl (g.2.1 1, 1, .inr (.inl (wj (f)))))]) (wc := wM (g.1, g.2.1, adm) M) (wc' := wM (g.1, g.2.1, adm) (t.2)) (w' := wX (g.1, g.2.1, adx) X N T Rd Fr Ac (r.2) PS Ly Pa OT Ea Ga Im0 Im1 ++ (wM (g.1, g.2.1, adm) (t.2) ++ [(o9, .inl (g.2.1 1, 1, .inr (.inl (wj (f)))))])) (r := zI t.1) cx (tM_chain h2) dW_663 666 rfl kl_M_chain ql_1704 ql_1705 ql_1706 rfl e_M rfl (z_pm1 _ _ _) (z_pm2 _ _ _) ⟨rfl, rfl⟩ ⟨Nat.le_of_ble_eq_true rfl, Nat.le_of_ble_eq_true rfl⟩ rfl rfl (Nat.le_of_ble_eq_true rfl) ⟨by show nc ≤ 601024; omega, by show ns ≤ 7293034; omega⟩ ?_
  refine z_icmp_eq cx dW_666 669 rfl 1360 (by decide) (fun _ => ?_) (fun h => absurd (congrArg zI he) h)
  refine z_widen (k := nc + 5) (n := ns + 105) (by show nc ≤ nc + 5; omega) (by show ns ≤ ns + 105; omega) ?_
  exact next _ _ _ _ _ _ _ _ _ _ _ _ _ Im0 Im1 _ _ hJ
set_option maxHeartbeats 4000000 in
theorem lawC_13 {p : Program} {l : Launch} {e : Env} {s : State} {m : MethodId} {args : Array Value} {below : List Frame} {meth : Method} {c : Code} {A : Nat → Prop} {g : ZG} {Q : State → Prop} {ks : ZS} {adx adm : Nat → Nat} {o9 b L nc ns : Nat} {xs : Nat → Int32} {f : Nat → Int} {i : Int} {X : ZB} {N : ZB} {T : ZB} {Rd : ZB} {Fr : ZB} {Ac : ZA} {Ch : ZB} {PS : ZB} {Ly : ZB} {Pa : ZQ} {OT : ZB} {Ea : ZB} {Ga : ZB} {Im0 : ZO} {Im1 : ZO} {M : ZB} {INV : ZB → ZB → ZB → ZB → ZB → ZA → ZB → ZB → ZB → ZQ → ZB → ZB → ZB → Option ZB → Option ZB → ZB → Prop} (cx : zC p s m args meth c code "ForestPacksLaw" 7 A s.heap g ret) (hE : zE ks A s) (hl9 : l.stackTraces = false) (hX : va_X b L xs s s.heap) (hbl : b < s.heap.size) (hbA : ¬ A b) (hL : L ≤ 3072) (hi : 0 ≤ i ∧ i + 6 ≤ L) (hnc : nc + 5 ≤ 601024) (hns : ns + 105 ≤ 7293034) (hI : INV X N T Rd Fr Ac Ch PS Ly Pa OT Ea Ga (cont Im0) (cont Im1) M) (hS : Sim13 INV) (next : ∀ (X : ZB) (N : ZB) (T : ZB) (Rd : ZB) (Fr : ZB) (Ac : ZA) (Ch : ZB) (PS : ZB) (Ly : ZB) (Pa : ZQ) (OT : ZB) (Ea : ZB) (Ga : ZB) (q0 q1 : ZO) (M : ZB) (f : Nat → Int), INV X N T Rd Fr Ac Ch PS Ly Pa OT Ea Ga (cont q0) (cont q1) M → V p l e room_1 s m args below meth c A s.heap g 7 Q (wX (g.1, g.2.1, adx) X N T Rd Fr Ac Ch PS Ly Pa OT Ea Ga q0 q1 ++ (wM (g.1, g.2.1, adm) M ++ [(o9, .inl (g.2.1 1, 1, .inr (.inl (wj (f)))))])) (nc + 5) (ns + 105) [(0, .ref b), (1, .ref (adx 0)), (2, .ref (adm 0)), (3, .ref o9), (4, .int (zI i))] 1360 []) : V p l e room_1 s m args below meth c A s.heap g 7 Q (wX (g.1, g.2.1, adx) X N T Rd Fr Ac Ch PS Ly Pa OT Ea Ga Im0 Im1 ++ (wM (g.1, g.2.1, adm) M ++ [(o9, .inl (g.2.1 1, 1, .inr (.inl (wj (f)))))])) (nc) (ns) [(0, .ref b), (1, .ref (adx 0)), (2, .ref (adm 0)), (3, .ref o9), (4, .int (zI i))] 671 [] := by
  obtain ⟨r, t, h1, h2, he, hJ⟩ := hS _ _ _ _ _ _ _ _ _ _ _ _ _ _ _ _ (zsc xs (i + 1)) (zsc xs (i + 2)) hI (zsc_r xs _) (zsc_r xs _)
  refine z_aload_n cx dW_671 672 rfl rfl 1 rfl ?_
  refine z_aload_n cx dW_672 673 rfl rfl 0 rfl ?_
  refine z_iload cx dW_673 675 rfl 4 rfl ?_
  refine y_iconst cx dW_675 676 rfl ?_
  refine y_iadd cx dW_676 677 rfl ?_
  refine z_sld cx hX hbl hbA (by omega) hL dW_677 678 rfl ?_
  refine z_aload_n cx dW_678 679 rfl rfl 0 rfl ?_
  refine z_iload cx dW_679 681 rfl 4 rfl ?_
  refine y_iconst cx dW_681 682 rfl ?_
  refine y_iadd cx dW_682 683 rfl ?_
  refine z_sld cx hX hbl hbA (by omega) hL dW_683 684 rfl ?_
  refine z_callF (As := [.int (zI (zsc xs (i + 1))), .int (zI (zsc xs (i + 2)))]) (rest := []) (rm := zrX_chainAt) (wr := wM (g.1, g.2.1, adm) M ++ [(o9, .inl (g.2.1 1, 1, .inr (.inl (wj (f)))))]) (wc := wX (g.1, g.2.1, adx) X N T Rd Fr Ac Ch PS Ly Pa OT Ea Ga Im0 Im1) (wc' := wX (g.1, g.2.1, adx) X N T Rd Fr Ac Ch PS Ly Pa OT Ea Ga Im0 Im1) (w' := wX (g.1, g.2.1, adx) X N T Rd Fr Ac Ch PS Ly Pa OT Ea Ga Im0 Im1 ++ (wM (g.1, g.2.1, adm) M ++ [(o9, .inl (g.2.1 1, 1, .inr (.inl (wj (f)))))])) (r := zI r) cx (tX_chainAt h1) dW_684 687 rfl kl_X_chainAt ql_835 ql_836 ql_837 rfl e_X rfl List.perm_append_comm List.perm_append_comm ⟨rfl, rfl⟩ ⟨Nat.le_of_ble_eq_true rfl, Nat.le_of_ble_eq_true rfl⟩ rfl rfl (Nat.le_of_ble_eq_true rfl) ⟨by show nc ≤ 601024; omega, by show ns ≤ 7293034; omega⟩ ?_
  refine z_aload_n cx dW_687 688 rfl rfl 2 rfl ?_
  refine z_aload_n cx dW_688 689 rfl rfl 0 rfl ?_
  refine z_iload cx dW_689 691 rfl 4 rfl ?_
  refine y_iconst cx dW_691 692 rfl ?_
  refine y_iadd cx dW_692 693 rfl ?_
  refine z_sld cx hX hbl hbA (by omega) hL dW_693 694 rfl ?_
  refine z_aload_n cx dW_694 695 rfl rfl 0 rfl ?_
  refine z_iload cx dW_695 697 rfl 4 rfl ?_
  refine y_iconst cx dW_697 698 rfl ?_
  refine y_iadd cx dW_698 699 rfl ?_
  refine z_sld cx hX hbl hbA (by omega) hL dW_699 700 rfl ?_
  refine z_callF (As := [.int (zI (zsc xs (i + 1))), .int (zI (zsc xs (i + 2)))]) (rest := [.int (zI r)]) (rm := zrM_chainAt) (wr := wX (g.1, g.2.1, adx) X N T Rd Fr Ac Ch PS Ly Pa OT Ea Ga Im0 Im1 ++ [(o9, .inl (g.2.1 1, 1, .inr (.inl (wj (f)))))]) (wc := wM (g.1, g.2.1, adm) M) (wc' := wM (g.1, g.2.1, adm) (t.2)) (w' := wX (g.1, g.2.1, adx) X N T Rd Fr Ac Ch PS Ly Pa OT Ea Ga Im0 Im1 ++ (wM (g.1, g.2.1, adm) (t.2) ++ [(o9, .inl (g.2.1 1, 1, .inr (.inl (wj (f)))))])) (r := zI t.1) cx (tM_chainAt h2) dW_700 703 rfl kl_M_chainAt ql_1708 ql_1709 ql_1710 rfl e_M rfl (z_pm1 _ _ _) (z_pm2 _ _ _) ⟨rfl, rfl⟩ ⟨Nat.le_of_ble_eq_true rfl, Nat.le_of_ble_eq_true rfl⟩ rfl rfl (Nat.le_of_ble_eq_true rfl) ⟨by show nc ≤ 601024; omega, by show ns ≤ 7293034; omega⟩ ?_
  refine z_icmp_eq cx dW_703 706 rfl 1360 (by decide) (fun _ => ?_) (fun h => absurd (congrArg zI he) h)
  refine z_widen (k := nc + 5) (n := ns + 105) (by show nc ≤ nc + 5; omega) (by show ns ≤ ns + 105; omega) ?_
  exact next _ _ _ _ _ _ _ _ _ _ _ _ _ Im0 Im1 _ _ hJ
