-- needs: 07y.img 10.vsmall 17.cons1
theorem qi_113 : Cond.initialized "ForestPacks$Net" ∈ zT := zin 113 (by decide +kernel) (by decide +kernel)
theorem qi_144 : Cond.classLink "ForestPacks" 7 "ForestPacks$Net" ∈ zT := zin 144 (by decide +kernel) (by decide +kernel)
theorem qi_145 : Cond.instantiable "ForestPacks$Net" 9 ∈ zT := zin 145 (by decide +kernel) (by decide +kernel)
theorem qi_147 : Cond.instanceMethod yX5_init ∈ zT := zin 147 (by decide +kernel) (by decide +kernel)
theorem qi_537 : Cond.fieldLink "ForestPacks" 10 "ForestPacks" "current" "LForestPacks$Net;" ∈ zT := zin 537 (by decide +kernel) (by decide +kernel)
theorem qi_540 : Cond.fieldLink "ForestPacks" 37 "ForestPacks" "acts" "LForestPacks$Acts;" ∈ zT := zin 540 (by decide +kernel) (by decide +kernel)
theorem qi_548 : Cond.fieldLink "ForestPacks" 94 "ForestPacks" "images" "[LForestPacks$Net;" ∈ zT := zin 548 (by decide +kernel) (by decide +kernel)
theorem qi_688 : Cond.methodLink "ForestPacks" 120 yX5_become ∈ zT := zin 688 (by decide +kernel) (by decide +kernel)
theorem qi_689 : Cond.instanceMethod yX5_become ∈ zT := zin 689 (by decide +kernel) (by decide +kernel)
theorem qi_690 : Cond.selects "ForestPacks$Net" yX5_become yX5_become ∈ zT := zin 690 (by decide +kernel) (by decide +kernel)
theorem qi_695 : Cond.methodLink "ForestPacks" 123 yX0_forget ∈ zT := zin 695 (by decide +kernel) (by decide +kernel)
theorem qi_696 : Cond.instanceMethod yX0_forget ∈ zT := zin 696 (by decide +kernel) (by decide +kernel)
theorem qi_697 : Cond.selects "ForestPacks$Acts" yX0_forget yX0_forget ∈ zT := zin 697 (by decide +kernel) (by decide +kernel)
theorem dX_image_0 : decode cX11_image 0 = .ok (.iload_n 1, 1) := by decide +kernel
theorem dX_image_1 : decode cX11_image 1 = .ok (.ifCond .lt 8, 3) := by decide +kernel
theorem dX_image_4 : decode cX11_image 4 = .ok (.iload_n 1, 1) := by decide +kernel
theorem dX_image_5 : decode cX11_image 5 = .ok (.iconst 2, 1) := by decide +kernel
theorem dX_image_6 : decode cX11_image 6 = .ok (.if_icmp .lt 5, 3) := by decide +kernel
theorem dX_image_9 : decode cX11_image 9 = .ok (.iconst 0, 1) := by decide +kernel
theorem dX_image_10 : decode cX11_image 10 = .ok (.ireturn, 1) := by decide +kernel
theorem dX_image_11 : decode cX11_image 11 = .ok (.aload_n 0, 1) := by decide +kernel
theorem dX_image_12 : decode cX11_image 12 = .ok (.getfield 94, 3) := by decide +kernel
theorem dX_image_15 : decode cX11_image 15 = .ok (.iload_n 1, 1) := by decide +kernel
theorem dX_image_16 : decode cX11_image 16 = .ok (.aaload, 1) := by decide +kernel
theorem dX_image_17 : decode cX11_image 17 = .ok (.ifnonnull 16, 3) := by decide +kernel
theorem dX_image_20 : decode cX11_image 20 = .ok (.aload_n 0, 1) := by decide +kernel
theorem dX_image_21 : decode cX11_image 21 = .ok (.getfield 94, 3) := by decide +kernel
theorem dX_image_24 : decode cX11_image 24 = .ok (.iload_n 1, 1) := by decide +kernel
theorem dX_image_25 : decode cX11_image 25 = .ok (.new 7, 3) := by decide +kernel
theorem dX_image_28 : decode cX11_image 28 = .ok (.dup, 1) := by decide +kernel
theorem dX_image_29 : decode cX11_image 29 = .ok (.invokespecial 9, 3) := by decide +kernel
theorem dX_image_32 : decode cX11_image 32 = .ok (.aastore, 1) := by decide +kernel
theorem dX_image_33 : decode cX11_image 33 = .ok (.aload_n 0, 1) := by decide +kernel
theorem dX_image_34 : decode cX11_image 34 = .ok (.getfield 94, 3) := by decide +kernel
theorem dX_image_37 : decode cX11_image 37 = .ok (.iload_n 1, 1) := by decide +kernel
theorem dX_image_38 : decode cX11_image 38 = .ok (.aaload, 1) := by decide +kernel
theorem dX_image_39 : decode cX11_image 39 = .ok (.aload_n 0, 1) := by decide +kernel
theorem dX_image_40 : decode cX11_image 40 = .ok (.getfield 10, 3) := by decide +kernel
theorem dX_image_43 : decode cX11_image 43 = .ok (.invokevirtual 120, 3) := by decide +kernel
theorem dX_image_46 : decode cX11_image 46 = .ok (.iconst 1, 1) := by decide +kernel
theorem dX_image_47 : decode cX11_image 47 = .ok (.ireturn, 1) := by decide +kernel
theorem dX_restore_0 : decode cX11_restore 0 = .ok (.iload_n 1, 1) := by decide +kernel
theorem dX_restore_1 : decode cX11_restore 1 = .ok (.ifCond .lt 17, 3) := by decide +kernel
theorem dX_restore_4 : decode cX11_restore 4 = .ok (.iload_n 1, 1) := by decide +kernel
theorem dX_restore_5 : decode cX11_restore 5 = .ok (.iconst 2, 1) := by decide +kernel
theorem dX_restore_6 : decode cX11_restore 6 = .ok (.if_icmp .ge 12, 3) := by decide +kernel
theorem dX_restore_9 : decode cX11_restore 9 = .ok (.aload_n 0, 1) := by decide +kernel
theorem dX_restore_10 : decode cX11_restore 10 = .ok (.getfield 94, 3) := by decide +kernel
theorem dX_restore_13 : decode cX11_restore 13 = .ok (.iload_n 1, 1) := by decide +kernel
theorem dX_restore_14 : decode cX11_restore 14 = .ok (.aaload, 1) := by decide +kernel
theorem dX_restore_15 : decode cX11_restore 15 = .ok (.ifnonnull 5, 3) := by decide +kernel
theorem dX_restore_18 : decode cX11_restore 18 = .ok (.iconst 0, 1) := by decide +kernel
theorem dX_restore_19 : decode cX11_restore 19 = .ok (.ireturn, 1) := by decide +kernel
theorem dX_restore_20 : decode cX11_restore 20 = .ok (.aload_n 0, 1) := by decide +kernel
theorem dX_restore_21 : decode cX11_restore 21 = .ok (.getfield 10, 3) := by decide +kernel
theorem dX_restore_24 : decode cX11_restore 24 = .ok (.aload_n 0, 1) := by decide +kernel
theorem dX_restore_25 : decode cX11_restore 25 = .ok (.getfield 94, 3) := by decide +kernel
theorem dX_restore_28 : decode cX11_restore 28 = .ok (.iload_n 1, 1) := by decide +kernel
theorem dX_restore_29 : decode cX11_restore 29 = .ok (.aaload, 1) := by decide +kernel
theorem dX_restore_30 : decode cX11_restore 30 = .ok (.invokevirtual 120, 3) := by decide +kernel
theorem dX_restore_33 : decode cX11_restore 33 = .ok (.aload_n 0, 1) := by decide +kernel
theorem dX_restore_34 : decode cX11_restore 34 = .ok (.getfield 37, 3) := by decide +kernel
theorem dX_restore_37 : decode cX11_restore 37 = .ok (.invokevirtual 123, 3) := by decide +kernel
theorem dX_restore_40 : decode cX11_restore 40 = .ok (.iconst 1, 1) := by decide +kernel
theorem dX_restore_41 : decode cX11_restore 41 = .ok (.ireturn, 1) := by decide +kernel
/-! image, restore -/
section II
variable {p : Program} {l : Launch} {e : Env} {R : Room} {s : State} {m : MethodId} {args : Array Value} {below : List Frame} {meth : Method} {c : Code} {cc : ByteArray} {own : String} {nL : Nat} {A : Nat → Prop} {g : ZG} {ret : Option FieldType} {Q : State → Prop} {w w' : va_W} {nc ns : Nat} {lv lv' : List (Nat × Value)} {pc : Nat} {st : List Value} {ks : ZS}
theorem z_aald (cx : zC p s m args meth c cc own nL A s.heap g ret) {a n : Nat} {i : Int32} {f : Nat → Option Nat} {v : Value} {q0 : Nat} (hd : decode cc pc = .ok (.aaload, 1)) (pc2 : Nat) (hp : pc + 1 = pc2) (he : w[q0]? = some (a, .inl (g.2.1 3, n, .inr (.inr (.inr (.inr f)))))) (hi : vp_in i n) (hv : va_rf (f i.toNatClampNeg) = v) (k : V p l e R s m args below meth c A s.heap g nL Q w nc ns lv pc2 (v :: st)) : V p l e R s m args below meth c A s.heap g nL Q w nc ns lv pc (.int i :: .ref a :: st) := by
  subst hp
  subst hv
  exact fun H locs ls hP hD hS hl => va_aldq cx.1 cx.2.1 cx.2.2.2.2.2.1 hP q0 3 he rfl hi hd (k H locs ls hP hD hS hl)
theorem z_ifnonnull (cx : zC p s m args meth c cc own nL A s.heap g ret) {x : Nat} {off : Int} (hd : decode cc pc = .ok (.ifnonnull off, 3)) (tgt : Nat) (ht : (pc : Int) + off = (tgt : Int)) (k : V p l e R s m args below meth c A s.heap g nL Q w nc ns lv tgt st) : V p l e R s m args below meth c A s.heap g nL Q w nc ns lv pc (.ref x :: st) :=
  fun H locs ls hP hD hS hl => lv_ifnonnull cx.1 cx.2.1 hd ht (k H locs ls hP hD hS hl)
theorem z_ifnonnullN (cx : zC p s m args meth c cc own nL A s.heap g ret) {off : Int} (hd : decode cc pc = .ok (.ifnonnull off, 3)) (pc2 : Nat) (hp : pc + 3 = pc2) (k : V p l e R s m args below meth c A s.heap g nL Q w nc ns lv pc2 st) : V p l e R s m args below meth c A s.heap g nL Q w nc ns lv pc (.null :: st) := by
  subst hp
  exact fun H locs ls hP hD hS hl => lv_ifnonnullN cx.1 cx.2.1 hd (k H locs ls hP hD hS hl)
/-- a contract whose end world is told by a property -/
def zMq (l : Launch) (ks : ZS) (y : MethodName) (cc : ByteArray) (nL : Nat) (ret : Option FieldType) (rm : Room) (g : ZG) (as : List Value) (w : va_W) (post : Int32 → va_W → Prop) : Prop := ∀ sz : Nat, Met l y (zU y cc nL ret) rm (zPe ks as g w sz) (va_Qi (fun x (u : va_W) => post x u) (fun u t => va_P g.1 vwCl u t.heap ∧ va_K g.1 vwCl (zY g) t ∧ va_D (va_A w sz) u) (va_A w sz)) rm.cells rm.slots (va_A w sz)
def zQq (below : List Frame) (g : ZG) (A : Nat → Prop) (post : Int32 → va_W → Prop) (args : Array Value) (s : State) (mc ms : Nat) : State → Prop := MQ below (va_Qi (fun x (u : va_W) => post x u) (fun u t => va_P g.1 vwCl u t.heap ∧ va_K g.1 vwCl (zY g) t ∧ va_D A u) A) args s mc ms A
theorem z_iretq {post : Int32 → va_W → Prop} {v : Int32} {ty : FieldType} (cx : zC p s m args meth c cc own nL A s.heap g (some ty)) (hd : decode cc pc = .ok (.ireturn, 1)) (hn : narrow ty (.int v) = .int v) (hp : post v w) : V p l e R s m args below meth c A s.heap g nL (zQq below g A post args s nc ns) w nc ns lv pc [.int v] :=
  fun H locs ls hP hD hS hl => W.zret cx.1 cx.2.1 cx.2.2.2.2.2.2.2.1 hn (fun t ht hW => ⟨⟨v, w, rfl, hp, by rw [ht]; exact hP, va_K.moved hW.alike cx.2.2.2.2.2.1, hD⟩, hS.F ht⟩) hS.2.2 hd cx.2.2.2.2.2.2.2.2
theorem zMq_of {y : MethodName} {rm : Room} {as : List Value} {post : Int32 → va_W → Prop} (ho : y.cls = own) (hy : plainName y.cls = true) (hlen : (lg_sl as).length ≤ nL) (hlv : lv_args 0 as = lv)
    (body : ∀ (p : Program) (e : Env) (s : State) (m : MethodId) (args : Array Value) (below : List Frame) (meth : Method) (c : Code) (A : Nat → Prop) (Q : State → Prop), zQq below g A post args s rm.cells rm.slots = Q → zC p s m args meth c cc own nL A s.heap g ret → zE ks A s → V p l e rm s m args below meth c A s.heap g nL Q w 0 0 lv 0 []) : zMq l ks y cc nL ret rm g as w post := by
  intro sz
  subst ho
  refine Met.ofW (cc := cc) (maxL := nL) (ret := ret) hy rfl ?_
  intro p e s m args below meth c s₁ B hml hv
  obtain ⟨rfl, hsz, hP, hK, hD0, hE⟩ := hv
  subst hsz
  have hts := atoms_spec (ws := zU y cc nL ret) B.pre
  rw [lg_entry_eq]
  exact body p e s m _ below meth c (va_A w s.heap.size) _ rfl ⟨B.exec, B.bytes, hml, fun x hx => hts x (List.mem_cons_of_mem _ hx), findClass_of_methodNamed B.named, hK, fun q h => Or.inr h, B.returns, B.notSynchronized⟩ hE s.heap [] _ hP hD0.self va_S.rf (hlv ▸ lv_entry as hlen)
end II
def zrX_restore : Room := { frames := 6, cells := 0, slots := 0, locals := 200 }
def zrX_image : Room := { frames := 6, cells := 5, slots := 105, locals := 200 }
theorem tX_restore_0 {l : Launch} {g : ZG} {X : ZB} {N : ZB} {T : ZB} {Rd : ZB} {Fr : ZB} {Ac : ZA} {Ch : ZB} {PS : ZB} {Ly : ZB} {Pa : ZQ} {OT : ZB} {Ea : ZB} {Ga : ZB} {Im1 : ZO} {ad : Nat → Nat} {S : ZB} {u : ZB} {v : ZA} (hu : fN_become N S = some u) (hv : fAc_forget Ac = some v) : zMi l yX11_restore cX11_restore 2 (some .boolean) zrX_restore g [.ref (g.2.2 0), .int 0] (wX g X N T Rd Fr Ac Ch PS Ly Pa OT Ea Ga (some (ad, S)) Im1) (wX g X u T Rd Fr v Ch PS Ly Pa OT Ea Ga (some (ad, S)) Im1) (zI 1) := by
  refine zMi_q (own := RX11) rfl (by decide +kernel) (Nat.le_of_ble_eq_true rfl) (lv := [(0, .ref (g.2.2 0)), (1, .int 0)]) rfl ⟨rfl, rfl⟩ ?_
  intro p e s m args below meth c A Q hQ cx
  refine z_iload_n cx dX_restore_0 1 rfl rfl 1 rfl ?_
  refine z_if_lt cx dX_restore_1 4 rfl 18 (by decide) (fun h => absurd h (by decide)) (fun _ => ?_)
  refine z_iload_n cx dX_restore_4 5 rfl rfl 1 rfl ?_
  refine z_iconst cx dX_restore_5 6 rfl (v := 2) (by decide) ?_
  refine z_icmp_ge cx dX_restore_6 9 rfl 18 (by decide) (fun h => absurd h (by decide)) (fun _ => ?_)
  refine z_aload_n cx dX_restore_9 10 rfl rfl 0 rfl ?_
  refine z_get cx dX_restore_10 13 rfl e_X rfl zX11 11 (by decide) qi_548 rfl rfl ?_
  refine z_iload_n cx dX_restore_13 14 rfl rfl 1 rfl ?_
  refine z_aald cx dX_restore_14 15 rfl e_X_images (vp_in_iff.mpr (by decide)) (v := .ref (ad 0)) rfl ?_
  refine z_ifnonnull cx dX_restore_15 20 (by decide) ?_
  refine z_aload_n cx dX_restore_20 21 rfl rfl 0 rfl ?_
  refine z_get cx dX_restore_21 24 rfl e_X rfl zX11 0 (by decide) qi_537 rfl rfl ?_
  refine z_aload_n cx dX_restore_24 25 rfl rfl 0 rfl ?_
  refine z_get cx dX_restore_25 28 rfl e_X rfl zX11 11 (by decide) qi_548 rfl rfl ?_
  refine z_iload_n cx dX_restore_28 29 rfl rfl 1 rfl ?_
  refine z_aald cx dX_restore_29 30 rfl e_X_images (vp_in_iff.mpr (by decide)) (v := .ref (ad 0)) rfl ?_
  refine z_callV_v (As := [.ref (ad 0)]) (rest := []) cx (tN_become_N_I0 hu) dX_restore_30 33 rfl kk_X5_become qi_688 qi_689 qi_690 rfl e_N rfl ⟨rfl, rfl⟩ ⟨Nat.le_of_ble_eq_true rfl, Nat.le_of_ble_eq_true rfl⟩ rfl rfl (Nat.le_of_ble_eq_true rfl) ⟨Nat.le_of_ble_eq_true rfl, Nat.le_of_ble_eq_true rfl⟩ ?_
  refine z_aload_n cx dX_restore_33 34 rfl rfl 0 rfl ?_
  refine z_get cx dX_restore_34 37 rfl e_X rfl zX11 3 (by decide) qi_540 rfl rfl ?_
  refine z_callV_v (As := []) (rest := []) cx (tAc_forget hv) dX_restore_37 40 rfl kk_X0_forget qi_695 qi_696 qi_697 rfl e_Ac rfl ⟨rfl, rfl⟩ ⟨Nat.le_of_ble_eq_true rfl, Nat.le_of_ble_eq_true rfl⟩ rfl rfl (Nat.le_of_ble_eq_true rfl) ⟨Nat.le_of_ble_eq_true rfl, Nat.le_of_ble_eq_true rfl⟩ ?_
  refine y_iconst cx dX_restore_40 41 rfl ?_
  subst hQ
  exact z_zret cx dX_restore_41 (Or.inr rfl) rfl rfl
theorem tX_restore_1 {l : Launch} {g : ZG} {X : ZB} {N : ZB} {T : ZB} {Rd : ZB} {Fr : ZB} {Ac : ZA} {Ch : ZB} {PS : ZB} {Ly : ZB} {Pa : ZQ} {OT : ZB} {Ea : ZB} {Ga : ZB} {ad : Nat → Nat} {S : ZB} {u : ZB} {v : ZA} (hu : fN_become N S = some u) (hv : fAc_forget Ac = some v) : zMi l yX11_restore cX11_restore 2 (some .boolean) zrX_restore g [.ref (g.2.2 0), .int 1] (wX g X N T Rd Fr Ac Ch PS Ly Pa OT Ea Ga none (some (ad, S))) (wX g X u T Rd Fr v Ch PS Ly Pa OT Ea Ga none (some (ad, S))) (zI 1) := by
  refine zMi_q (own := RX11) rfl (by decide +kernel) (Nat.le_of_ble_eq_true rfl) (lv := [(0, .ref (g.2.2 0)), (1, .int 1)]) rfl ⟨rfl, rfl⟩ ?_
  intro p e s m args below meth c A Q hQ cx
  refine z_iload_n cx dX_restore_0 1 rfl rfl 1 rfl ?_
  refine z_if_lt cx dX_restore_1 4 rfl 18 (by decide) (fun h => absurd h (by decide)) (fun _ => ?_)
  refine z_iload_n cx dX_restore_4 5 rfl rfl 1 rfl ?_
  refine z_iconst cx dX_restore_5 6 rfl (v := 2) (by decide) ?_
  refine z_icmp_ge cx dX_restore_6 9 rfl 18 (by decide) (fun h => absurd h (by decide)) (fun _ => ?_)
  refine z_aload_n cx dX_restore_9 10 rfl rfl 0 rfl ?_
  refine z_get cx dX_restore_10 13 rfl e_X rfl zX11 11 (by decide) qi_548 rfl rfl ?_
  refine z_iload_n cx dX_restore_13 14 rfl rfl 1 rfl ?_
  refine z_aald cx dX_restore_14 15 rfl e_X_images (vp_in_iff.mpr (by decide)) (v := .ref (ad 0)) rfl ?_
  refine z_ifnonnull cx dX_restore_15 20 (by decide) ?_
  refine z_aload_n cx dX_restore_20 21 rfl rfl 0 rfl ?_
  refine z_get cx dX_restore_21 24 rfl e_X rfl zX11 0 (by decide) qi_537 rfl rfl ?_
  refine z_aload_n cx dX_restore_24 25 rfl rfl 0 rfl ?_
  refine z_get cx dX_restore_25 28 rfl e_X rfl zX11 11 (by decide) qi_548 rfl rfl ?_
  refine z_iload_n cx dX_restore_28 29 rfl rfl 1 rfl ?_
  refine z_aald cx dX_restore_29 30 rfl e_X_images (vp_in_iff.mpr (by decide)) (v := .ref (ad 0)) rfl ?_
  refine z_callV_v (As := [.ref (ad 0)]) (rest := []) cx (tN_become_N_I1 hu) dX_restore_30 33 rfl kk_X5_become qi_688 qi_689 qi_690 rfl e_N rfl ⟨rfl, rfl⟩ ⟨Nat.le_of_ble_eq_true rfl, Nat.le_of_ble_eq_true rfl⟩ rfl rfl (Nat.le_of_ble_eq_true rfl) ⟨Nat.le_of_ble_eq_true rfl, Nat.le_of_ble_eq_true rfl⟩ ?_
  refine z_aload_n cx dX_restore_33 34 rfl rfl 0 rfl ?_
  refine z_get cx dX_restore_34 37 rfl e_X rfl zX11 3 (by decide) qi_540 rfl rfl ?_
  refine z_callV_v (As := []) (rest := []) cx (tAc_forget hv) dX_restore_37 40 rfl kk_X0_forget qi_695 qi_696 qi_697 rfl e_Ac rfl ⟨rfl, rfl⟩ ⟨Nat.le_of_ble_eq_true rfl, Nat.le_of_ble_eq_true rfl⟩ rfl rfl (Nat.le_of_ble_eq_true rfl) ⟨Nat.le_of_ble_eq_true rfl, Nat.le_of_ble_eq_true rfl⟩ ?_
  refine y_iconst cx dX_restore_40 41 rfl ?_
  subst hQ
  exact z_zret cx dX_restore_41 (Or.inr rfl) rfl rfl
theorem tX_restore_2 {l : Launch} {g : ZG} {X : ZB} {N : ZB} {T : ZB} {Rd : ZB} {Fr : ZB} {Ac : ZA} {Ch : ZB} {PS : ZB} {Ly : ZB} {Pa : ZQ} {OT : ZB} {Ea : ZB} {Ga : ZB} {ad ad9 : Nat → Nat} {S S9 : ZB} {u : ZB} {v : ZA} (hu : fN_become N S = some u) (hv : fAc_forget Ac = some v) : zMi l yX11_restore cX11_restore 2 (some .boolean) zrX_restore g [.ref (g.2.2 0), .int 1] (wX g X N T Rd Fr Ac Ch PS Ly Pa OT Ea Ga (some (ad9, S9)) (some (ad, S))) (wX g X u T Rd Fr v Ch PS Ly Pa OT Ea Ga (some (ad9, S9)) (some (ad, S))) (zI 1) := by
  refine zMi_q (own := RX11) rfl (by decide +kernel) (Nat.le_of_ble_eq_true rfl) (lv := [(0, .ref (g.2.2 0)), (1, .int 1)]) rfl ⟨rfl, rfl⟩ ?_
  intro p e s m args below meth c A Q hQ cx
  refine z_iload_n cx dX_restore_0 1 rfl rfl 1 rfl ?_
  refine z_if_lt cx dX_restore_1 4 rfl 18 (by decide) (fun h => absurd h (by decide)) (fun _ => ?_)
  refine z_iload_n cx dX_restore_4 5 rfl rfl 1 rfl ?_
  refine z_iconst cx dX_restore_5 6 rfl (v := 2) (by decide) ?_
  refine z_icmp_ge cx dX_restore_6 9 rfl 18 (by decide) (fun h => absurd h (by decide)) (fun _ => ?_)
  refine z_aload_n cx dX_restore_9 10 rfl rfl 0 rfl ?_
  refine z_get cx dX_restore_10 13 rfl e_X rfl zX11 11 (by decide) qi_548 rfl rfl ?_
  refine z_iload_n cx dX_restore_13 14 rfl rfl 1 rfl ?_
  refine z_aald cx dX_restore_14 15 rfl e_X_images (vp_in_iff.mpr (by decide)) (v := .ref (ad 0)) rfl ?_
  refine z_ifnonnull cx dX_restore_15 20 (by decide) ?_
  refine z_aload_n cx dX_restore_20 21 rfl rfl 0 rfl ?_
  refine z_get cx dX_restore_21 24 rfl e_X rfl zX11 0 (by decide) qi_537 rfl rfl ?_
  refine z_aload_n cx dX_restore_24 25 rfl rfl 0 rfl ?_
  refine z_get cx dX_restore_25 28 rfl e_X rfl zX11 11 (by decide) qi_548 rfl rfl ?_
  refine z_iload_n cx dX_restore_28 29 rfl rfl 1 rfl ?_
  refine z_aald cx dX_restore_29 30 rfl e_X_images (vp_in_iff.mpr (by decide)) (v := .ref (ad 0)) rfl ?_
  refine z_callV_v (As := [.ref (ad 0)]) (rest := []) cx (tN_become_N_I2 hu) dX_restore_30 33 rfl kk_X5_become qi_688 qi_689 qi_690 rfl e_N rfl ⟨rfl, rfl⟩ ⟨Nat.le_of_ble_eq_true rfl, Nat.le_of_ble_eq_true rfl⟩ rfl rfl (Nat.le_of_ble_eq_true rfl) ⟨Nat.le_of_ble_eq_true rfl, Nat.le_of_ble_eq_true rfl⟩ ?_
  refine z_aload_n cx dX_restore_33 34 rfl rfl 0 rfl ?_
  refine z_get cx dX_restore_34 37 rfl e_X rfl zX11 3 (by decide) qi_540 rfl rfl ?_
  refine z_callV_v (As := []) (rest := []) cx (tAc_forget hv) dX_restore_37 40 rfl kk_X0_forget qi_695 qi_696 qi_697 rfl e_Ac rfl ⟨rfl, rfl⟩ ⟨Nat.le_of_ble_eq_true rfl, Nat.le_of_ble_eq_true rfl⟩ rfl rfl (Nat.le_of_ble_eq_true rfl) ⟨Nat.le_of_ble_eq_true rfl, Nat.le_of_ble_eq_true rfl⟩ ?_
  refine y_iconst cx dX_restore_40 41 rfl ?_
  subst hQ
  exact z_zret cx dX_restore_41 (Or.inr rfl) rfl rfl
theorem tX_restore_n0 {l : Launch} {g : ZG} {X : ZB} {N : ZB} {T : ZB} {Rd : ZB} {Fr : ZB} {Ac : ZA} {Ch : ZB} {PS : ZB} {Ly : ZB} {Pa : ZQ} {OT : ZB} {Ea : ZB} {Ga : ZB} {Im1 : ZO} : zMi l yX11_restore cX11_restore 2 (some .boolean) zrX_restore g [.ref (g.2.2 0), .int 0] (wX g X N T Rd Fr Ac Ch PS Ly Pa OT Ea Ga none Im1) (wX g X N T Rd Fr Ac Ch PS Ly Pa OT Ea Ga none Im1) (zI 0) := by
  refine zMi_q (own := RX11) rfl (by decide +kernel) (Nat.le_of_ble_eq_true rfl) (lv := [(0, .ref (g.2.2 0)), (1, .int 0)]) rfl ⟨rfl, rfl⟩ ?_
  intro p e s m args below meth c A Q hQ cx
  refine z_iload_n cx dX_restore_0 1 rfl rfl 1 rfl ?_
  refine z_if_lt cx dX_restore_1 4 rfl 18 (by decide) (fun h => absurd h (by decide)) (fun _ => ?_)
  refine z_iload_n cx dX_restore_4 5 rfl rfl 1 rfl ?_
  refine z_iconst cx dX_restore_5 6 rfl (v := 2) (by decide) ?_
  refine z_icmp_ge cx dX_restore_6 9 rfl 18 (by decide) (fun h => absurd h (by decide)) (fun _ => ?_)
  refine z_aload_n cx dX_restore_9 10 rfl rfl 0 rfl ?_
  refine z_get cx dX_restore_10 13 rfl e_X rfl zX11 11 (by decide) qi_548 rfl rfl ?_
  refine z_iload_n cx dX_restore_13 14 rfl rfl 1 rfl ?_
  refine z_aald cx dX_restore_14 15 rfl e_X_images (vp_in_iff.mpr (by decide)) (v := .null) rfl ?_
  refine z_ifnonnullN cx dX_restore_15 18 rfl ?_
  refine y_iconst cx dX_restore_18 19 rfl ?_
  subst hQ
  exact z_zret cx dX_restore_19 (Or.inl rfl) rfl rfl
theorem tX_restore_n1 {l : Launch} {g : ZG} {X : ZB} {N : ZB} {T : ZB} {Rd : ZB} {Fr : ZB} {Ac : ZA} {Ch : ZB} {PS : ZB} {Ly : ZB} {Pa : ZQ} {OT : ZB} {Ea : ZB} {Ga : ZB} {Im0 : ZO} : zMi l yX11_restore cX11_restore 2 (some .boolean) zrX_restore g [.ref (g.2.2 0), .int 1] (wX g X N T Rd Fr Ac Ch PS Ly Pa OT Ea Ga Im0 none) (wX g X N T Rd Fr Ac Ch PS Ly Pa OT Ea Ga Im0 none) (zI 0) := by
  refine zMi_q (own := RX11) rfl (by decide +kernel) (Nat.le_of_ble_eq_true rfl) (lv := [(0, .ref (g.2.2 0)), (1, .int 1)]) rfl ⟨rfl, rfl⟩ ?_
  intro p e s m args below meth c A Q hQ cx
  refine z_iload_n cx dX_restore_0 1 rfl rfl 1 rfl ?_
  refine z_if_lt cx dX_restore_1 4 rfl 18 (by decide) (fun h => absurd h (by decide)) (fun _ => ?_)
  refine z_iload_n cx dX_restore_4 5 rfl rfl 1 rfl ?_
  refine z_iconst cx dX_restore_5 6 rfl (v := 2) (by decide) ?_
  refine z_icmp_ge cx dX_restore_6 9 rfl 18 (by decide) (fun h => absurd h (by decide)) (fun _ => ?_)
  refine z_aload_n cx dX_restore_9 10 rfl rfl 0 rfl ?_
  refine z_get cx dX_restore_10 13 rfl e_X rfl zX11 11 (by decide) qi_548 rfl rfl ?_
  refine z_iload_n cx dX_restore_13 14 rfl rfl 1 rfl ?_
  refine z_aald cx dX_restore_14 15 rfl e_X_images (vp_in_iff.mpr (by decide)) (v := .null) rfl ?_
  refine z_ifnonnullN cx dX_restore_15 18 rfl ?_
  refine y_iconst cx dX_restore_18 19 rfl ?_
  subst hQ
  exact z_zret cx dX_restore_19 (Or.inl rfl) rfl rfl
theorem tX_restore_o {l : Launch} {g : ZG} {X : ZB} {N : ZB} {T : ZB} {Rd : ZB} {Fr : ZB} {Ac : ZA} {Ch : ZB} {PS : ZB} {Ly : ZB} {Pa : ZQ} {OT : ZB} {Ea : ZB} {Ga : ZB} {Im0 : ZO} {Im1 : ZO} {x : Int32} (hx : x < 0 ∨ (2 : Int32) ≤ x) : zMi l yX11_restore cX11_restore 2 (some .boolean) zrX_restore g [.ref (g.2.2 0), .int x] (wX g X N T Rd Fr Ac Ch PS Ly Pa OT Ea Ga Im0 Im1) (wX g X N T Rd Fr Ac Ch PS Ly Pa OT Ea Ga Im0 Im1) (zI 0) := by
  refine zMi_q (own := RX11) rfl (by decide +kernel) (Nat.le_of_ble_eq_true rfl) (lv := [(0, .ref (g.2.2 0)), (1, .int x)]) rfl ⟨rfl, rfl⟩ ?_
  intro p e s m args below meth c A Q hQ cx
  have fin : V p l e zrX_restore s m args below meth c A s.heap g 2 Q (wX g X N T Rd Fr Ac Ch PS Ly Pa OT Ea Ga Im0 Im1) 0 0 [(0, .ref (g.2.2 0)), (1, .int x)] 18 [] := by
    refine y_iconst cx dX_restore_18 19 rfl ?_
    subst hQ
    exact z_zret cx dX_restore_19 (Or.inl rfl) rfl rfl
  refine z_iload_n cx dX_restore_0 1 rfl rfl 1 rfl ?_
  refine z_if_lt cx dX_restore_1 4 rfl 18 (by decide) (fun _ => fin) (fun h => ?_)
  refine z_iload_n cx dX_restore_4 5 rfl rfl 1 rfl ?_
  refine z_iconst cx dX_restore_5 6 rfl (v := 2) (by decide) ?_
  exact z_icmp_ge cx dX_restore_6 9 rfl 18 (by decide) (fun _ => fin) (fun h2 => absurd (hx.resolve_left h) h2)
theorem zI_0 {a : Int} (h : nm a = 0) : zI a = 0 := by
  have q : zI a = zI 0 := zI_eq.mpr (h.trans nm_0.symm)
  exact q
theorem zI_1 {a : Int} (h : nm a = 1) : zI a = 1 := by
  have q : zI a = zI 1 := zI_eq.mpr (h.trans (nm_eq (x := 1) (by decide) (by decide)).symm)
  exact q
theorem zI_o {a : Int} (h0 : ¬ nm a = 0) (h1 : ¬ nm a = 1) : zI a < 0 ∨ (2 : Int32) ≤ zI a := by
  rcases Int.lt_or_le (nm a) 0 with q | q
  · have q2 : zI a < zI 0 := zI_lt.mpr (by rw [nm_0]; exact q)
    exact Or.inl q2
  · have q2 : zI 2 ≤ zI a := zI_le.mpr (by rw [nm_eq (x := 2) (by decide) (by decide)]; omega)
    exact Or.inr q2
theorem tX_restore {l : Launch} {g : ZG} {X : ZB} {N : ZB} {T : ZB} {Rd : ZB} {Fr : ZB} {Ac : ZA} {Ch : ZB} {PS : ZB} {Ly : ZB} {Pa : ZQ} {OT : ZB} {Ea : ZB} {Ga : ZB} {Im0 : ZO} {Im1 : ZO} {a1 : Int} {r : Int × ZB × ZA} (h : fX_restore N Ac (cont Im0) (cont Im1) a1 = some r) : zMi l yX11_restore cX11_restore 2 (some .boolean) zrX_restore g [.ref (g.2.2 0), .int (zI a1)] (wX g X N T Rd Fr Ac Ch PS Ly Pa OT Ea Ga Im0 Im1) (wX g X r.2.1 T Rd Fr r.2.2 Ch PS Ly Pa OT Ea Ga Im0 Im1) (zI r.1) := by
  unfold fX_restore at h
  by_cases h0 : nm a1 = 0
  · rw [if_pos h0] at h
    rw [zI_0 h0]
    rcases Im0 with _ | ⟨ad, S⟩
    · obtain rfl := Option.some.inj h
      exact tX_restore_n0
    · have h : bd (fN_become N S) (fun u => bd (fAc_forget Ac) fun v => some (1, u, v)) = some r := h
      obtain ⟨u, hu, h⟩ := bd_i h
      obtain ⟨v, hv, h⟩ := bd_i h
      obtain rfl := Option.some.inj h
      exact tX_restore_0 hu hv
  · rw [if_neg h0] at h
    by_cases h1 : nm a1 = 1
    · rw [if_pos h1] at h
      rw [zI_1 h1]
      rcases Im1 with _ | ⟨ad, S⟩
      · obtain rfl := Option.some.inj h
        exact tX_restore_n1
      · have h : bd (fN_become N S) (fun u => bd (fAc_forget Ac) fun v => some (1, u, v)) = some r := h
        obtain ⟨u, hu, h⟩ := bd_i h
        obtain ⟨v, hv, h⟩ := bd_i h
        obtain rfl := Option.some.inj h
        rcases Im0 with _ | ⟨ad9, S9⟩
        · exact tX_restore_1 hu hv
        · exact tX_restore_2 hu hv
    · rw [if_neg h1] at h
      obtain rfl := Option.some.inj h
      exact tX_restore_o (zI_o h0 h1)
theorem tX_image_0 {l : Launch} {ks : ZS} {g : ZG} {X : ZB} {N : ZB} {T : ZB} {Rd : ZB} {Fr : ZB} {Ac : ZA} {Ch : ZB} {PS : ZB} {Ly : ZB} {Pa : ZQ} {OT : ZB} {Ea : ZB} {Ga : ZB} {Im1 : ZO} {ad : Nat → Nat} {D u : ZB} (hu : fN_become D N = some u) : zMq l ks yX11_image cX11_image 2 (some .boolean) zrX_image g [.ref (g.2.2 0), .int 0] (wX g X N T Rd Fr Ac Ch PS Ly Pa OT Ea Ga (some (ad, D)) Im1) (fun v w9 => v = 1 ∧ ∃ q0 q1 : ZO, cont q0 = some u ∧ cont q1 = cont Im1 ∧ w9 = wX g X N T Rd Fr Ac Ch PS Ly Pa OT Ea Ga q0 q1) := by
  refine zMq_of (own := RX11) rfl (by decide +kernel) (Nat.le_of_ble_eq_true rfl) (lv := [(0, .ref (g.2.2 0)), (1, .int 0)]) rfl ?_
  intro p e s m args below meth c A Q hQ cx hE
  refine z_iload_n cx dX_image_0 1 rfl rfl 1 rfl ?_
  refine z_if_lt cx dX_image_1 4 rfl 9 (by decide) (fun h => absurd h (by decide)) (fun _ => ?_)
  refine z_iload_n cx dX_image_4 5 rfl rfl 1 rfl ?_
  refine z_iconst cx dX_image_5 6 rfl (v := 2) (by decide) ?_
  refine z_icmp_lt cx dX_image_6 9 rfl 11 (by decide) (fun _ => ?_) (fun h => absurd (by decide) h)
  refine z_aload_n cx dX_image_11 12 rfl rfl 0 rfl ?_
  refine z_get cx dX_image_12 15 rfl e_X rfl zX11 11 (by decide) qi_548 rfl rfl ?_
  refine z_iload_n cx dX_image_15 16 rfl rfl 1 rfl ?_
  refine z_aald cx dX_image_16 17 rfl e_X_images (vp_in_iff.mpr (by decide)) (v := .ref (ad 0)) rfl ?_
  refine z_ifnonnull cx dX_image_17 33 (by decide) ?_
  refine z_aload_n cx dX_image_33 34 rfl rfl 0 rfl ?_
  refine z_get cx dX_image_34 37 rfl e_X rfl zX11 11 (by decide) qi_548 rfl rfl ?_
  refine z_iload_n cx dX_image_37 38 rfl rfl 1 rfl ?_
  refine z_aald cx dX_image_38 39 rfl e_X_images (vp_in_iff.mpr (by decide)) (v := .ref (ad 0)) rfl ?_
  refine z_aload_n cx dX_image_39 40 rfl rfl 0 rfl ?_
  refine z_get cx dX_image_40 43 rfl e_X rfl zX11 0 (by decide) qi_537 rfl rfl ?_
  refine z_callV_v (As := [.ref (g.2.2 1)]) (rest := []) cx (tN_become_I0_N hu) dX_image_43 46 rfl kk_X5_become qi_688 qi_689 qi_690 rfl e_I0 rfl ⟨rfl, rfl⟩ ⟨Nat.le_of_ble_eq_true rfl, Nat.le_of_ble_eq_true rfl⟩ rfl rfl (Nat.le_of_ble_eq_true rfl) ⟨Nat.le_of_ble_eq_true rfl, Nat.le_of_ble_eq_true rfl⟩ ?_
  refine y_iconst cx dX_image_46 47 rfl ?_
  refine z_widen (k := 5) (n := 105) (Nat.le_of_ble_eq_true rfl) (Nat.le_of_ble_eq_true rfl) ?_
  subst hQ
  exact z_iretq cx dX_image_47 rfl ⟨rfl, some (ad, u), Im1, rfl, rfl, rfl⟩
theorem tX_image_1 {l : Launch} {ks : ZS} {g : ZG} {X : ZB} {N : ZB} {T : ZB} {Rd : ZB} {Fr : ZB} {Ac : ZA} {Ch : ZB} {PS : ZB} {Ly : ZB} {Pa : ZQ} {OT : ZB} {Ea : ZB} {Ga : ZB} {ad : Nat → Nat} {D u : ZB} (hu : fN_become D N = some u) : zMq l ks yX11_image cX11_image 2 (some .boolean) zrX_image g [.ref (g.2.2 0), .int 1] (wX g X N T Rd Fr Ac Ch PS Ly Pa OT Ea Ga none (some (ad, D))) (fun v w9 => v = 1 ∧ ∃ q0 q1 : ZO, cont q0 = none ∧ cont q1 = some u ∧ w9 = wX g X N T Rd Fr Ac Ch PS Ly Pa OT Ea Ga q0 q1) := by
  refine zMq_of (own := RX11) rfl (by decide +kernel) (Nat.le_of_ble_eq_true rfl) (lv := [(0, .ref (g.2.2 0)), (1, .int 1)]) rfl ?_
  intro p e s m args below meth c A Q hQ cx hE
  refine z_iload_n cx dX_image_0 1 rfl rfl 1 rfl ?_
  refine z_if_lt cx dX_image_1 4 rfl 9 (by decide) (fun h => absurd h (by decide)) (fun _ => ?_)
  refine z_iload_n cx dX_image_4 5 rfl rfl 1 rfl ?_
  refine z_iconst cx dX_image_5 6 rfl (v := 2) (by decide) ?_
  refine z_icmp_lt cx dX_image_6 9 rfl 11 (by decide) (fun _ => ?_) (fun h => absurd (by decide) h)
  refine z_aload_n cx dX_image_11 12 rfl rfl 0 rfl ?_
  refine z_get cx dX_image_12 15 rfl e_X rfl zX11 11 (by decide) qi_548 rfl rfl ?_
  refine z_iload_n cx dX_image_15 16 rfl rfl 1 rfl ?_
  refine z_aald cx dX_image_16 17 rfl e_X_images (vp_in_iff.mpr (by decide)) (v := .ref (ad 0)) rfl ?_
  refine z_ifnonnull cx dX_image_17 33 (by decide) ?_
  refine z_aload_n cx dX_image_33 34 rfl rfl 0 rfl ?_
  refine z_get cx dX_image_34 37 rfl e_X rfl zX11 11 (by decide) qi_548 rfl rfl ?_
  refine z_iload_n cx dX_image_37 38 rfl rfl 1 rfl ?_
  refine z_aald cx dX_image_38 39 rfl e_X_images (vp_in_iff.mpr (by decide)) (v := .ref (ad 0)) rfl ?_
  refine z_aload_n cx dX_image_39 40 rfl rfl 0 rfl ?_
  refine z_get cx dX_image_40 43 rfl e_X rfl zX11 0 (by decide) qi_537 rfl rfl ?_
  refine z_callV_v (As := [.ref (g.2.2 1)]) (rest := []) cx (tN_become_I1_N hu) dX_image_43 46 rfl kk_X5_become qi_688 qi_689 qi_690 rfl e_I1 rfl ⟨rfl, rfl⟩ ⟨Nat.le_of_ble_eq_true rfl, Nat.le_of_ble_eq_true rfl⟩ rfl rfl (Nat.le_of_ble_eq_true rfl) ⟨Nat.le_of_ble_eq_true rfl, Nat.le_of_ble_eq_true rfl⟩ ?_
  refine y_iconst cx dX_image_46 47 rfl ?_
  refine z_widen (k := 5) (n := 105) (Nat.le_of_ble_eq_true rfl) (Nat.le_of_ble_eq_true rfl) ?_
  subst hQ
  exact z_iretq cx dX_image_47 rfl ⟨rfl, none, some (ad, u), rfl, rfl, rfl⟩
theorem tX_image_2 {l : Launch} {ks : ZS} {g : ZG} {X : ZB} {N : ZB} {T : ZB} {Rd : ZB} {Fr : ZB} {Ac : ZA} {Ch : ZB} {PS : ZB} {Ly : ZB} {Pa : ZQ} {OT : ZB} {Ea : ZB} {Ga : ZB} {ad ad9 : Nat → Nat} {D u S9 : ZB} (hu : fN_become D N = some u) : zMq l ks yX11_image cX11_image 2 (some .boolean) zrX_image g [.ref (g.2.2 0), .int 1] (wX g X N T Rd Fr Ac Ch PS Ly Pa OT Ea Ga (some (ad9, S9)) (some (ad, D))) (fun v w9 => v = 1 ∧ ∃ q0 q1 : ZO, cont q0 = some S9 ∧ cont q1 = some u ∧ w9 = wX g X N T Rd Fr Ac Ch PS Ly Pa OT Ea Ga q0 q1) := by
  refine zMq_of (own := RX11) rfl (by decide +kernel) (Nat.le_of_ble_eq_true rfl) (lv := [(0, .ref (g.2.2 0)), (1, .int 1)]) rfl ?_
  intro p e s m args below meth c A Q hQ cx hE
  refine z_iload_n cx dX_image_0 1 rfl rfl 1 rfl ?_
  refine z_if_lt cx dX_image_1 4 rfl 9 (by decide) (fun h => absurd h (by decide)) (fun _ => ?_)
  refine z_iload_n cx dX_image_4 5 rfl rfl 1 rfl ?_
  refine z_iconst cx dX_image_5 6 rfl (v := 2) (by decide) ?_
  refine z_icmp_lt cx dX_image_6 9 rfl 11 (by decide) (fun _ => ?_) (fun h => absurd (by decide) h)
  refine z_aload_n cx dX_image_11 12 rfl rfl 0 rfl ?_
  refine z_get cx dX_image_12 15 rfl e_X rfl zX11 11 (by decide) qi_548 rfl rfl ?_
  refine z_iload_n cx dX_image_15 16 rfl rfl 1 rfl ?_
  refine z_aald cx dX_image_16 17 rfl e_X_images (vp_in_iff.mpr (by decide)) (v := .ref (ad 0)) rfl ?_
  refine z_ifnonnull cx dX_image_17 33 (by decide) ?_
  refine z_aload_n cx dX_image_33 34 rfl rfl 0 rfl ?_
  refine z_get cx dX_image_34 37 rfl e_X rfl zX11 11 (by decide) qi_548 rfl rfl ?_
  refine z_iload_n cx dX_image_37 38 rfl rfl 1 rfl ?_
  refine z_aald cx dX_image_38 39 rfl e_X_images (vp_in_iff.mpr (by decide)) (v := .ref (ad 0)) rfl ?_
  refine z_aload_n cx dX_image_39 40 rfl rfl 0 rfl ?_
  refine z_get cx dX_image_40 43 rfl e_X rfl zX11 0 (by decide) qi_537 rfl rfl ?_
  refine z_callV_v (As := [.ref (g.2.2 1)]) (rest := []) cx (tN_become_I2_N hu) dX_image_43 46 rfl kk_X5_become qi_688 qi_689 qi_690 rfl e_I2 rfl ⟨rfl, rfl⟩ ⟨Nat.le_of_ble_eq_true rfl, Nat.le_of_ble_eq_true rfl⟩ rfl rfl (Nat.le_of_ble_eq_true rfl) ⟨Nat.le_of_ble_eq_true rfl, Nat.le_of_ble_eq_true rfl⟩ ?_
  refine y_iconst cx dX_image_46 47 rfl ?_
  refine z_widen (k := 5) (n := 105) (Nat.le_of_ble_eq_true rfl) (Nat.le_of_ble_eq_true rfl) ?_
  subst hQ
  exact z_iretq cx dX_image_47 rfl ⟨rfl, some (ad9, S9), some (ad, u), rfl, rfl, rfl⟩
theorem tX_image_n0 {l : Launch} {ks : ZS} {g : ZG} {X : ZB} {N : ZB} {T : ZB} {Rd : ZB} {Fr : ZB} {Ac : ZA} {Ch : ZB} {PS : ZB} {Ly : ZB} {Pa : ZQ} {OT : ZB} {Ea : ZB} {Ga : ZB} {Im1 : ZO} {u : ZB} (hu : fN_become zNet0B N = some u) : zMq l ks yX11_image cX11_image 2 (some .boolean) zrX_image g [.ref (g.2.2 0), .int 0] (wX g X N T Rd Fr Ac Ch PS Ly Pa OT Ea Ga none Im1) (fun v w9 => v = 1 ∧ ∃ q0 q1 : ZO, cont q0 = some u ∧ cont q1 = cont Im1 ∧ w9 = wX g X N T Rd Fr Ac Ch PS Ly Pa OT Ea Ga q0 q1) := by
  refine zMq_of (own := RX11) rfl (by decide +kernel) (Nat.le_of_ble_eq_true rfl) (lv := [(0, .ref (g.2.2 0)), (1, .int 0)]) rfl ?_
  intro p e s m args below meth c A Q hQ cx hE
  refine z_iload_n cx dX_image_0 1 rfl rfl 1 rfl ?_
  refine z_if_lt cx dX_image_1 4 rfl 9 (by decide) (fun h => absurd h (by decide)) (fun _ => ?_)
  refine z_iload_n cx dX_image_4 5 rfl rfl 1 rfl ?_
  refine z_iconst cx dX_image_5 6 rfl (v := 2) (by decide) ?_
  refine z_icmp_lt cx dX_image_6 9 rfl 11 (by decide) (fun _ => ?_) (fun h => absurd (by decide) h)
  refine z_aload_n cx dX_image_11 12 rfl rfl 0 rfl ?_
  refine z_get cx dX_image_12 15 rfl e_X rfl zX11 11 (by decide) qi_548 rfl rfl ?_
  refine z_iload_n cx dX_image_15 16 rfl rfl 1 rfl ?_
  refine z_aald cx dX_image_16 17 rfl e_X_images (vp_in_iff.mpr (by decide)) (v := .null) rfl ?_
  refine z_ifnonnullN cx dX_image_17 20 rfl ?_
  refine z_aload_n cx dX_image_20 21 rfl rfl 0 rfl ?_
  refine z_get cx dX_image_21 24 rfl e_X rfl zX11 11 (by decide) qi_548 rfl rfl ?_
  refine z_iload_n cx dX_image_24 25 rfl rfl 1 rfl ?_
  refine z_new (ci := 5) (fs := [.null, .null, .null, .null, .int 0, .int 0, .int 0, .int 0, .int 0]) (W := fun h => wX g X N T Rd Fr Ac Ch PS Ly Pa OT Ea Ga none Im1 ++ [(h, .inr (5, [.null, .null, .null, .null, .int 0, .int 0, .int 0, .int 0, .int 0]))]) cx dX_image_25 28 rfl qi_144 zX5 tyX5 tyX5_ok qi_145 qi_113 rfl (fun j hj => by rcases (show j = 0 ∨ j = 1 ∨ j = 2 ∨ j = 3 ∨ j = 4 ∨ j = 5 ∨ j = 6 ∨ j = 7 ∨ j = 8 by omega) with rfl | rfl | rfl | rfl | rfl | rfl | rfl | rfl | rfl <;> rfl) (Nat.le_of_ble_eq_true rfl) (Nat.le_of_ble_eq_true rfl) (fun _ => rfl) (fun h => ?_)
  refine z_dup cx dX_image_28 29 rfl rfl ?_
  refine z_callIN (As := []) (rest := [.ref h, .int 0, .ref (g.2.2 90)]) (wr := wX g X N T Rd Fr Ac Ch PS Ly Pa OT Ea Ga none Im1) (wc := [(h, .inr (5, [.null, .null, .null, .null, .int 0, .int 0, .int 0, .int 0, .int 0]))]) (W := fun q => wI_X5_init g h q) (W' := fun q => wX g X N T Rd Fr Ac Ch PS Ly Pa OT Ea Ga none Im1 ++ wI_X5_init g h q) cx hE tC_X5_init dX_image_29 32 rfl kC_X5_init hE.1.1 qi_147 rfl rfl ⟨Nat.le_of_ble_eq_true rfl, Nat.le_of_ble_eq_true rfl⟩ rfl rfl (Nat.le_of_ble_eq_true rfl) ⟨Nat.le_of_ble_eq_true rfl, Nat.le_of_ble_eq_true rfl⟩ (fun _ => rfl) (fun q => ?_)
  obtain ⟨ad, had⟩ : ∃ ad : Nat → Nat, ad = fun i => [h, q 0, q 1, q 2, q 3].getD i 0 := ⟨_, rfl⟩
  refine z_perm List.perm_append_comm ?_
  have hfun : va_up (fun j : Nat => if j = 0 then Option.map (fun q : (Nat → Nat) × ZB => q.1 0) (none : ZO) else if j = 1 then Option.map (fun q : (Nat → Nat) × ZB => q.1 0) (Im1 : ZO) else none) 0 (some h) = (fun j : Nat => if j = 0 then Option.map (fun q : (Nat → Nat) × ZB => q.1 0) ((some (ad, zNet0B)) : ZO) else if j = 1 then Option.map (fun q : (Nat → Nat) × ZB => q.1 0) (Im1 : ZO) else none) := by
    funext j
    subst had
    unfold va_up
    by_cases hj0 : j = 0
    · subst hj0; rfl
    · by_cases hj1 : j = 1
      · subst hj1; rfl
      · simp only [hj0, hj1, if_false]
  have hset : (wI_X5_init g h q ++ wX g X N T Rd Fr Ac Ch PS Ly Pa OT Ea Ga none Im1).set 95 (g.2.2 90, .inl (g.2.1 3, 2, .inr (.inr (.inr (.inr (fun j : Nat => if j = 0 then Option.map (fun q : (Nat → Nat) × ZB => q.1 0) ((some (ad, zNet0B)) : ZO) else if j = 1 then Option.map (fun q : (Nat → Nat) × ZB => q.1 0) (Im1 : ZO) else none)))))) = wI_X5_init g h q ++ ((wX g X N T Rd Fr Ac Ch PS Ly Pa OT Ea Ga (some (ad, zNet0B)) Im1).take 91 ++ cIm g Im1) := by rfl
  refine z_astq (i := 0) (n := 2) (w' := wI_X5_init g h q ++ ((wX g X N T Rd Fr Ac Ch PS Ly Pa OT Ea Ga (some (ad, zNet0B)) Im1).take 91 ++ cIm g Im1)) cx dX_image_32 33 rfl 95 0 rfl rfl (by decide) (by decide) (by rw [← hset, ← hfun]) ?_
  refine z_perm (w' := wX g X N T Rd Fr Ac Ch PS Ly Pa OT Ea Ga (some (ad, zNet0B)) Im1) (by
    have hp := List.perm_append_comm_assoc (wI_X5_init g h q) ((wX g X N T Rd Fr Ac Ch PS Ly Pa OT Ea Ga (some (ad, zNet0B)) Im1).take 91) (cIm g Im1)
    refine hp.trans (List.Perm.of_eq ?_)
    subst had
    rfl) ?_
  have had0 : ad 0 = h := by subst had; rfl
  refine z_aload_n cx dX_image_33 34 rfl rfl 0 rfl ?_
  refine z_get cx dX_image_34 37 rfl e_X rfl zX11 11 (by decide) qi_548 rfl rfl ?_
  refine z_iload_n cx dX_image_37 38 rfl rfl 1 rfl ?_
  refine z_aald cx dX_image_38 39 rfl e_X_images (vp_in_iff.mpr (by decide)) (v := .ref (ad 0)) rfl ?_
  refine z_aload_n cx dX_image_39 40 rfl rfl 0 rfl ?_
  refine z_get cx dX_image_40 43 rfl e_X rfl zX11 0 (by decide) qi_537 rfl rfl ?_
  refine z_callV_v (As := [.ref (g.2.2 1)]) (rest := []) cx (tN_become_I0_N (ad := ad) (D := zNet0B) hu) dX_image_43 46 rfl kk_X5_become qi_688 qi_689 qi_690 rfl e_I0 rfl ⟨rfl, rfl⟩ ⟨Nat.le_of_ble_eq_true rfl, Nat.le_of_ble_eq_true rfl⟩ rfl rfl (Nat.le_of_ble_eq_true rfl) ⟨Nat.le_of_ble_eq_true rfl, Nat.le_of_ble_eq_true rfl⟩ ?_
  refine y_iconst cx dX_image_46 47 rfl ?_
  refine z_widen (k := 5) (n := 105) (Nat.le_of_ble_eq_true rfl) (Nat.le_of_ble_eq_true rfl) ?_
  subst hQ
  exact z_iretq cx dX_image_47 rfl ⟨rfl, some (ad, u), Im1, rfl, rfl, rfl⟩
theorem tX_image_n1 {l : Launch} {ks : ZS} {g : ZG} {X : ZB} {N : ZB} {T : ZB} {Rd : ZB} {Fr : ZB} {Ac : ZA} {Ch : ZB} {PS : ZB} {Ly : ZB} {Pa : ZQ} {OT : ZB} {Ea : ZB} {Ga : ZB} {u : ZB} (hu : fN_become zNet0B N = some u) : zMq l ks yX11_image cX11_image 2 (some .boolean) zrX_image g [.ref (g.2.2 0), .int 1] (wX g X N T Rd Fr Ac Ch PS Ly Pa OT Ea Ga none none) (fun v w9 => v = 1 ∧ ∃ q0 q1 : ZO, cont q0 = none ∧ cont q1 = some u ∧ w9 = wX g X N T Rd Fr Ac Ch PS Ly Pa OT Ea Ga q0 q1) := by
  refine zMq_of (own := RX11) rfl (by decide +kernel) (Nat.le_of_ble_eq_true rfl) (lv := [(0, .ref (g.2.2 0)), (1, .int 1)]) rfl ?_
  intro p e s m args below meth c A Q hQ cx hE
  refine z_iload_n cx dX_image_0 1 rfl rfl 1 rfl ?_
  refine z_if_lt cx dX_image_1 4 rfl 9 (by decide) (fun h => absurd h (by decide)) (fun _ => ?_)
  refine z_iload_n cx dX_image_4 5 rfl rfl 1 rfl ?_
  refine z_iconst cx dX_image_5 6 rfl (v := 2) (by decide) ?_
  refine z_icmp_lt cx dX_image_6 9 rfl 11 (by decide) (fun _ => ?_) (fun h => absurd (by decide) h)
  refine z_aload_n cx dX_image_11 12 rfl rfl 0 rfl ?_
  refine z_get cx dX_image_12 15 rfl e_X rfl zX11 11 (by decide) qi_548 rfl rfl ?_
  refine z_iload_n cx dX_image_15 16 rfl rfl 1 rfl ?_
  refine z_aald cx dX_image_16 17 rfl e_X_images (vp_in_iff.mpr (by decide)) (v := .null) rfl ?_
  refine z_ifnonnullN cx dX_image_17 20 rfl ?_
  refine z_aload_n cx dX_image_20 21 rfl rfl 0 rfl ?_
  refine z_get cx dX_image_21 24 rfl e_X rfl zX11 11 (by decide) qi_548 rfl rfl ?_
  refine z_iload_n cx dX_image_24 25 rfl rfl 1 rfl ?_
  refine z_new (ci := 5) (fs := [.null, .null, .null, .null, .int 0, .int 0, .int 0, .int 0, .int 0]) (W := fun h => wX g X N T Rd Fr Ac Ch PS Ly Pa OT Ea Ga none none ++ [(h, .inr (5, [.null, .null, .null, .null, .int 0, .int 0, .int 0, .int 0, .int 0]))]) cx dX_image_25 28 rfl qi_144 zX5 tyX5 tyX5_ok qi_145 qi_113 rfl (fun j hj => by rcases (show j = 0 ∨ j = 1 ∨ j = 2 ∨ j = 3 ∨ j = 4 ∨ j = 5 ∨ j = 6 ∨ j = 7 ∨ j = 8 by omega) with rfl | rfl | rfl | rfl | rfl | rfl | rfl | rfl | rfl <;> rfl) (Nat.le_of_ble_eq_true rfl) (Nat.le_of_ble_eq_true rfl) (fun _ => rfl) (fun h => ?_)
  refine z_dup cx dX_image_28 29 rfl rfl ?_
  refine z_callIN (As := []) (rest := [.ref h, .int 1, .ref (g.2.2 90)]) (wr := wX g X N T Rd Fr Ac Ch PS Ly Pa OT Ea Ga none none) (wc := [(h, .inr (5, [.null, .null, .null, .null, .int 0, .int 0, .int 0, .int 0, .int 0]))]) (W := fun q => wI_X5_init g h q) (W' := fun q => wX g X N T Rd Fr Ac Ch PS Ly Pa OT Ea Ga none none ++ wI_X5_init g h q) cx hE tC_X5_init dX_image_29 32 rfl kC_X5_init hE.1.1 qi_147 rfl rfl ⟨Nat.le_of_ble_eq_true rfl, Nat.le_of_ble_eq_true rfl⟩ rfl rfl (Nat.le_of_ble_eq_true rfl) ⟨Nat.le_of_ble_eq_true rfl, Nat.le_of_ble_eq_true rfl⟩ (fun _ => rfl) (fun q => ?_)
  obtain ⟨ad, had⟩ : ∃ ad : Nat → Nat, ad = fun i => [h, q 0, q 1, q 2, q 3].getD i 0 := ⟨_, rfl⟩
  refine z_perm List.perm_append_comm ?_
  have hfun : va_up (fun j : Nat => if j = 0 then Option.map (fun q : (Nat → Nat) × ZB => q.1 0) (none : ZO) else if j = 1 then Option.map (fun q : (Nat → Nat) × ZB => q.1 0) (none : ZO) else none) 1 (some h) = (fun j : Nat => if j = 0 then Option.map (fun q : (Nat → Nat) × ZB => q.1 0) (none : ZO) else if j = 1 then Option.map (fun q : (Nat → Nat) × ZB => q.1 0) ((some (ad, zNet0B)) : ZO) else none) := by
    funext j
    subst had
    unfold va_up
    by_cases hj0 : j = 0
    · subst hj0; rfl
    · by_cases hj1 : j = 1
      · subst hj1; rfl
      · simp only [hj0, hj1, if_false]
  have hset : (wI_X5_init g h q ++ wX g X N T Rd Fr Ac Ch PS Ly Pa OT Ea Ga none none).set 95 (g.2.2 90, .inl (g.2.1 3, 2, .inr (.inr (.inr (.inr (fun j : Nat => if j = 0 then Option.map (fun q : (Nat → Nat) × ZB => q.1 0) (none : ZO) else if j = 1 then Option.map (fun q : (Nat → Nat) × ZB => q.1 0) ((some (ad, zNet0B)) : ZO) else none)))))) = wI_X5_init g h q ++ ((wX g X N T Rd Fr Ac Ch PS Ly Pa OT Ea Ga none (some (ad, zNet0B))).take 91 ++ []) := by rfl
  refine z_astq (i := 1) (n := 2) (w' := wI_X5_init g h q ++ ((wX g X N T Rd Fr Ac Ch PS Ly Pa OT Ea Ga none (some (ad, zNet0B))).take 91 ++ [])) cx dX_image_32 33 rfl 95 0 rfl rfl (by decide) (by decide) (by rw [← hset, ← hfun]) ?_
  refine z_perm (w' := wX g X N T Rd Fr Ac Ch PS Ly Pa OT Ea Ga none (some (ad, zNet0B))) (by
    have hp := List.perm_append_comm (l₁ := wI_X5_init g h q) (l₂ := (wX g X N T Rd Fr Ac Ch PS Ly Pa OT Ea Ga none (some (ad, zNet0B))).take 91 ++ [])
    refine hp.trans (List.Perm.of_eq ?_)
    subst had
    rfl) ?_
  have had0 : ad 0 = h := by subst had; rfl
  refine z_aload_n cx dX_image_33 34 rfl rfl 0 rfl ?_
  refine z_get cx dX_image_34 37 rfl e_X rfl zX11 11 (by decide) qi_548 rfl rfl ?_
  refine z_iload_n cx dX_image_37 38 rfl rfl 1 rfl ?_
  refine z_aald cx dX_image_38 39 rfl e_X_images (vp_in_iff.mpr (by decide)) (v := .ref (ad 0)) rfl ?_
  refine z_aload_n cx dX_image_39 40 rfl rfl 0 rfl ?_
  refine z_get cx dX_image_40 43 rfl e_X rfl zX11 0 (by decide) qi_537 rfl rfl ?_
  refine z_callV_v (As := [.ref (g.2.2 1)]) (rest := []) cx (tN_become_I1_N (ad := ad) (D := zNet0B) hu) dX_image_43 46 rfl kk_X5_become qi_688 qi_689 qi_690 rfl e_I1 rfl ⟨rfl, rfl⟩ ⟨Nat.le_of_ble_eq_true rfl, Nat.le_of_ble_eq_true rfl⟩ rfl rfl (Nat.le_of_ble_eq_true rfl) ⟨Nat.le_of_ble_eq_true rfl, Nat.le_of_ble_eq_true rfl⟩ ?_
  refine y_iconst cx dX_image_46 47 rfl ?_
  refine z_widen (k := 5) (n := 105) (Nat.le_of_ble_eq_true rfl) (Nat.le_of_ble_eq_true rfl) ?_
  subst hQ
  exact z_iretq cx dX_image_47 rfl ⟨rfl, none, some (ad, u), rfl, rfl, rfl⟩
theorem tX_image_n2 {l : Launch} {ks : ZS} {g : ZG} {X : ZB} {N : ZB} {T : ZB} {Rd : ZB} {Fr : ZB} {Ac : ZA} {Ch : ZB} {PS : ZB} {Ly : ZB} {Pa : ZQ} {OT : ZB} {Ea : ZB} {Ga : ZB} {u S9 : ZB} {ad9 : Nat → Nat} (hu : fN_become zNet0B N = some u) : zMq l ks yX11_image cX11_image 2 (some .boolean) zrX_image g [.ref (g.2.2 0), .int 1] (wX g X N T Rd Fr Ac Ch PS Ly Pa OT Ea Ga (some (ad9, S9)) none) (fun v w9 => v = 1 ∧ ∃ q0 q1 : ZO, cont q0 = some S9 ∧ cont q1 = some u ∧ w9 = wX g X N T Rd Fr Ac Ch PS Ly Pa OT Ea Ga q0 q1) := by
  refine zMq_of (own := RX11) rfl (by decide +kernel) (Nat.le_of_ble_eq_true rfl) (lv := [(0, .ref (g.2.2 0)), (1, .int 1)]) rfl ?_
  intro p e s m args below meth c A Q hQ cx hE
  refine z_iload_n cx dX_image_0 1 rfl rfl 1 rfl ?_
  refine z_if_lt cx dX_image_1 4 rfl 9 (by decide) (fun h => absurd h (by decide)) (fun _ => ?_)
  refine z_iload_n cx dX_image_4 5 rfl rfl 1 rfl ?_
  refine z_iconst cx dX_image_5 6 rfl (v := 2) (by decide) ?_
  refine z_icmp_lt cx dX_image_6 9 rfl 11 (by decide) (fun _ => ?_) (fun h => absurd (by decide) h)
  refine z_aload_n cx dX_image_11 12 rfl rfl 0 rfl ?_
  refine z_get cx dX_image_12 15 rfl e_X rfl zX11 11 (by decide) qi_548 rfl rfl ?_
  refine z_iload_n cx dX_image_15 16 rfl rfl 1 rfl ?_
  refine z_aald cx dX_image_16 17 rfl e_X_images (vp_in_iff.mpr (by decide)) (v := .null) rfl ?_
  refine z_ifnonnullN cx dX_image_17 20 rfl ?_
  refine z_aload_n cx dX_image_20 21 rfl rfl 0 rfl ?_
  refine z_get cx dX_image_21 24 rfl e_X rfl zX11 11 (by decide) qi_548 rfl rfl ?_
  refine z_iload_n cx dX_image_24 25 rfl rfl 1 rfl ?_
  refine z_new (ci := 5) (fs := [.null, .null, .null, .null, .int 0, .int 0, .int 0, .int 0, .int 0]) (W := fun h => wX g X N T Rd Fr Ac Ch PS Ly Pa OT Ea Ga (some (ad9, S9)) none ++ [(h, .inr (5, [.null, .null, .null, .null, .int 0, .int 0, .int 0, .int 0, .int 0]))]) cx dX_image_25 28 rfl qi_144 zX5 tyX5 tyX5_ok qi_145 qi_113 rfl (fun j hj => by rcases (show j = 0 ∨ j = 1 ∨ j = 2 ∨ j = 3 ∨ j = 4 ∨ j = 5 ∨ j = 6 ∨ j = 7 ∨ j = 8 by omega) with rfl | rfl | rfl | rfl | rfl | rfl | rfl | rfl | rfl <;> rfl) (Nat.le_of_ble_eq_true rfl) (Nat.le_of_ble_eq_true rfl) (fun _ => rfl) (fun h => ?_)
  refine z_dup cx dX_image_28 29 rfl rfl ?_
  refine z_callIN (As := []) (rest := [.ref h, .int 1, .ref (g.2.2 90)]) (wr := wX g X N T Rd Fr Ac Ch PS Ly Pa OT Ea Ga (some (ad9, S9)) none) (wc := [(h, .inr (5, [.null, .null, .null, .null, .int 0, .int 0, .int 0, .int 0, .int 0]))]) (W := fun q => wI_X5_init g h q) (W' := fun q => wX g X N T Rd Fr Ac Ch PS Ly Pa OT Ea Ga (some (ad9, S9)) none ++ wI_X5_init g h q) cx hE tC_X5_init dX_image_29 32 rfl kC_X5_init hE.1.1 qi_147 rfl rfl ⟨Nat.le_of_ble_eq_true rfl, Nat.le_of_ble_eq_true rfl⟩ rfl rfl (Nat.le_of_ble_eq_true rfl) ⟨Nat.le_of_ble_eq_true rfl, Nat.le_of_ble_eq_true rfl⟩ (fun _ => rfl) (fun q => ?_)
  obtain ⟨ad, had⟩ : ∃ ad : Nat → Nat, ad = fun i => [h, q 0, q 1, q 2, q 3].getD i 0 := ⟨_, rfl⟩
  refine z_perm List.perm_append_comm ?_
  have hfun : va_up (fun j : Nat => if j = 0 then Option.map (fun q : (Nat → Nat) × ZB => q.1 0) ((some (ad9, S9)) : ZO) else if j = 1 then Option.map (fun q : (Nat → Nat) × ZB => q.1 0) (none : ZO) else none) 1 (some h) = (fun j : Nat => if j = 0 then Option.map (fun q : (Nat → Nat) × ZB => q.1 0) ((some (ad9, S9)) : ZO) else if j = 1 then Option.map (fun q : (Nat → Nat) × ZB => q.1 0) ((some (ad, zNet0B)) : ZO) else none) := by
    funext j
    subst had
    unfold va_up
    by_cases hj0 : j = 0
    · subst hj0; rfl
    · by_cases hj1 : j = 1
      · subst hj1; rfl
      · simp only [hj0, hj1, if_false]
  have hset : (wI_X5_init g h q ++ wX g X N T Rd Fr Ac Ch PS Ly Pa OT Ea Ga (some (ad9, S9)) none).set 95 (g.2.2 90, .inl (g.2.1 3, 2, .inr (.inr (.inr (.inr (fun j : Nat => if j = 0 then Option.map (fun q : (Nat → Nat) × ZB => q.1 0) ((some (ad9, S9)) : ZO) else if j = 1 then Option.map (fun q : (Nat → Nat) × ZB => q.1 0) ((some (ad, zNet0B)) : ZO) else none)))))) = wI_X5_init g h q ++ ((wX g X N T Rd Fr Ac Ch PS Ly Pa OT Ea Ga (some (ad9, S9)) (some (ad, zNet0B))).take 91 ++ cIm g (some (ad9, S9))) := by rfl
  refine z_astq (i := 1) (n := 2) (w' := wI_X5_init g h q ++ ((wX g X N T Rd Fr Ac Ch PS Ly Pa OT Ea Ga (some (ad9, S9)) (some (ad, zNet0B))).take 91 ++ cIm g (some (ad9, S9)))) cx dX_image_32 33 rfl 95 0 rfl rfl (by decide) (by decide) (by rw [← hset, ← hfun]) ?_
  refine z_perm (w' := wX g X N T Rd Fr Ac Ch PS Ly Pa OT Ea Ga (some (ad9, S9)) (some (ad, zNet0B))) (by
    have hp := List.perm_append_comm (l₁ := wI_X5_init g h q) (l₂ := (wX g X N T Rd Fr Ac Ch PS Ly Pa OT Ea Ga (some (ad9, S9)) (some (ad, zNet0B))).take 91 ++ cIm g (some (ad9, S9)))
    refine hp.trans (List.Perm.of_eq ?_)
    subst had
    rfl) ?_
  have had0 : ad 0 = h := by subst had; rfl
  refine z_aload_n cx dX_image_33 34 rfl rfl 0 rfl ?_
  refine z_get cx dX_image_34 37 rfl e_X rfl zX11 11 (by decide) qi_548 rfl rfl ?_
  refine z_iload_n cx dX_image_37 38 rfl rfl 1 rfl ?_
  refine z_aald cx dX_image_38 39 rfl e_X_images (vp_in_iff.mpr (by decide)) (v := .ref (ad 0)) rfl ?_
  refine z_aload_n cx dX_image_39 40 rfl rfl 0 rfl ?_
  refine z_get cx dX_image_40 43 rfl e_X rfl zX11 0 (by decide) qi_537 rfl rfl ?_
  refine z_callV_v (As := [.ref (g.2.2 1)]) (rest := []) cx (tN_become_I2_N (ad := ad) (D := zNet0B) hu) dX_image_43 46 rfl kk_X5_become qi_688 qi_689 qi_690 rfl e_I2 rfl ⟨rfl, rfl⟩ ⟨Nat.le_of_ble_eq_true rfl, Nat.le_of_ble_eq_true rfl⟩ rfl rfl (Nat.le_of_ble_eq_true rfl) ⟨Nat.le_of_ble_eq_true rfl, Nat.le_of_ble_eq_true rfl⟩ ?_
  refine y_iconst cx dX_image_46 47 rfl ?_
  refine z_widen (k := 5) (n := 105) (Nat.le_of_ble_eq_true rfl) (Nat.le_of_ble_eq_true rfl) ?_
  subst hQ
  exact z_iretq cx dX_image_47 rfl ⟨rfl, some (ad9, S9), some (ad, u), rfl, rfl, rfl⟩
theorem tX_image_o {l : Launch} {ks : ZS} {g : ZG} {X : ZB} {N : ZB} {T : ZB} {Rd : ZB} {Fr : ZB} {Ac : ZA} {Ch : ZB} {PS : ZB} {Ly : ZB} {Pa : ZQ} {OT : ZB} {Ea : ZB} {Ga : ZB} {Im0 : ZO} {Im1 : ZO} {x : Int32} (hx : x < 0 ∨ (2 : Int32) ≤ x) : zMq l ks yX11_image cX11_image 2 (some .boolean) zrX_image g [.ref (g.2.2 0), .int x] (wX g X N T Rd Fr Ac Ch PS Ly Pa OT Ea Ga Im0 Im1) (fun v w9 => v = 0 ∧ ∃ q0 q1 : ZO, cont q0 = cont Im0 ∧ cont q1 = cont Im1 ∧ w9 = wX g X N T Rd Fr Ac Ch PS Ly Pa OT Ea Ga q0 q1) := by
  refine zMq_of (own := RX11) rfl (by decide +kernel) (Nat.le_of_ble_eq_true rfl) (lv := [(0, .ref (g.2.2 0)), (1, .int x)]) rfl ?_
  intro p e s m args below meth c A Q hQ cx hE
  have fin : V p l e zrX_image s m args below meth c A s.heap g 2 Q (wX g X N T Rd Fr Ac Ch PS Ly Pa OT Ea Ga Im0 Im1) 0 0 [(0, .ref (g.2.2 0)), (1, .int x)] 9 [] := by
    refine y_iconst cx dX_image_9 10 rfl ?_
    refine z_widen (k := 5) (n := 105) (Nat.le_of_ble_eq_true rfl) (Nat.le_of_ble_eq_true rfl) ?_
    subst hQ
    exact z_iretq cx dX_image_10 rfl ⟨rfl, _, _, rfl, rfl, rfl⟩
  refine z_iload_n cx dX_image_0 1 rfl rfl 1 rfl ?_
  refine z_if_lt cx dX_image_1 4 rfl 9 (by decide) (fun _ => fin) (fun h => ?_)
  refine z_iload_n cx dX_image_4 5 rfl rfl 1 rfl ?_
  refine z_iconst cx dX_image_5 6 rfl (v := 2) (by decide) ?_
  exact z_icmp_lt cx dX_image_6 9 rfl 11 (by decide) (fun h2 => absurd (hx.resolve_left h) (Int32.not_le.mpr h2)) (fun _ => fin)
theorem zMq_mono {l : Launch} {ks : ZS} {g : ZG} {y : MethodName} {cc : ByteArray} {nL : Nat} {ret : Option FieldType} {rm : Room} {as : List Value} {w : va_W} {P1 P2 : Int32 → va_W → Prop} (h : zMq l ks y cc nL ret rm g as w P1) (hP : ∀ v w9, P1 v w9 → P2 v w9) : zMq l ks y cc nL ret rm g as w P2 := by
  intro sz p e h1 h2 h3 s m args below h4 h5 h6 h7
  obtain ⟨n, o, a1, a2, a3, a4⟩ := h sz p e h1 h2 h3 s m args below h4 h5 h6 h7
  refine ⟨n, o, a1, a2, a3, ?_, a4.2⟩
  obtain ⟨⟨r, u, e1, e2, e3⟩, e4⟩ := a4.1
  exact ⟨⟨r, u, e1, hP r u e2, e3⟩, e4⟩
theorem tX_image {l : Launch} {ks : ZS} {g : ZG} {X : ZB} {N : ZB} {T : ZB} {Rd : ZB} {Fr : ZB} {Ac : ZA} {Ch : ZB} {PS : ZB} {Ly : ZB} {Pa : ZQ} {OT : ZB} {Ea : ZB} {Ga : ZB} {Im0 : ZO} {Im1 : ZO} {a1 : Int} {r : Int × Option ZB × Option ZB} (h : fX_image N (cont Im0) (cont Im1) a1 = some r) : zMq l ks yX11_image cX11_image 2 (some .boolean) zrX_image g [.ref (g.2.2 0), .int (zI a1)] (wX g X N T Rd Fr Ac Ch PS Ly Pa OT Ea Ga Im0 Im1) (fun v w9 => v = zI r.1 ∧ ∃ q0 q1 : ZO, cont q0 = r.2.1 ∧ cont q1 = r.2.2 ∧ w9 = wX g X N T Rd Fr Ac Ch PS Ly Pa OT Ea Ga q0 q1) := by
  unfold fX_image at h
  by_cases h0 : nm a1 = 0
  · rw [if_pos h0] at h
    rw [zI_0 h0]
    obtain ⟨u, hu, h⟩ := bd_i h
    obtain rfl := Option.some.inj h
    rcases Im0 with _ | ⟨ad, D⟩
    · exact tX_image_n0 hu
    · exact tX_image_0 hu
  · rw [if_neg h0] at h
    by_cases h1 : nm a1 = 1
    · rw [if_pos h1] at h
      rw [zI_1 h1]
      obtain ⟨u, hu, h⟩ := bd_i h
      obtain rfl := Option.some.inj h
      rcases Im1 with _ | ⟨ad, D⟩
      · rcases Im0 with _ | ⟨ad9, S9⟩
        · exact tX_image_n1 hu
        · exact tX_image_n2 hu
      · rcases Im0 with _ | ⟨ad9, S9⟩
        · exact tX_image_1 hu
        · exact tX_image_2 hu
    · rw [if_neg h1] at h
      obtain rfl := Option.some.inj h
      exact tX_image_o (zI_o h0 h1)
