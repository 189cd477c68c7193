-- needs: 05z.alloc
/-! strings: what stands beside the worlds is read -/
section SS
variable {p : Program} {l : Launch} {e : Env} {R : Room} {s : State} {m : MethodId} {args : Array Value} {below : List Frame} {meth : Method} {c : Code} {cc : ByteArray} {own : String} {nL : Nat} {A : Nat → Prop} {g : ZG} {ret : Option FieldType} {Q : State → Prop} {w w' : va_W} {nc ns : Nat} {lv lv' : List (Nat × Value)} {pc : Nat} {st : List Value} {ks : ZS}
theorem z_ldcS (cx : zC p s m args meth c cc own nL A s.heap g ret) {tx : String} {index q : Nat} (hd : decode cc pc = .ok (.ldc index, 2)) (pc2 : Nat) (hp : pc + 2 = pc2) (hZ : vk_R own index tx q s) (k : V p l e R s m args below meth c A s.heap g nL Q w nc ns lv pc2 (.ref q :: st)) : V p l e R s m args below meth c A s.heap g nL Q w nc ns lv pc (st) := by
  subst hp
  exact fun H locs ls hP hD hS hl => va_ldcS cx.1 cx.2.1 cx.2.2.2.2.1 hZ hd (k H locs ls hP hD hS hl)
theorem z_getOF (cx : zC p s m args meth c cc own nL A s.heap g ret) {o n d : String} {index q : Nat} {v : Value} (hd : decode cc pc = .ok (.getfield index, 3)) (pc2 : Nat) (hp : pc + 3 = pc2) (hO : va_OF o n d v q A s s.heap) (hl : Cond.fieldLink own index o n d ∈ zT) (k : V p l e R s m args below meth c A s.heap g nL Q w nc ns lv pc2 (v :: st)) : V p l e R s m args below meth c A s.heap g nL Q w nc ns lv pc (.ref q :: st) := by
  subst hp
  exact fun H locs ls hP hD hS hl2 => vk_getf cx.1 cx.2.1 hO hS cx.2.2.2.2.1 (cx.2.2.2.1 _ hl) (fun _ h => h) hd (k H locs ls hP hD hS hl2)
theorem z_tlen (cx : zC p s m args meth c cc own nL A s.heap g ret) {t N : Nat} {ty : FieldType} {f : Nat → Value} {v : Int32} (hd : decode cc pc = .ok (.arraylength, 1)) (pc2 : Nat) (hp : pc + 1 = pc2) (hT : va_T ty t N f A s s.heap) (hv : Int32.ofNat N = v) (k : V p l e R s m args below meth c A s.heap g nL Q w nc ns lv pc2 (.int v :: st)) : V p l e R s m args below meth c A s.heap g nL Q w nc ns lv pc (.ref t :: st) := by
  subst hp
  exact fun H locs ls hP hD hS hl => va_tlen cx.1 cx.2.1 hT hS hv hd (k H locs ls hP hD hS hl)
theorem z_alen (cx : zC p s m args meth c cc own nL A s.heap g ret) {a n t0 : Nat} {x : vp_A} {ty : FieldType} {v : Int32} {q0 : Nat} (hd : decode cc pc = .ok (.arraylength, 1)) (pc2 : Nat) (hp : pc + 1 = pc2) (he : w[q0]? = some (a, .inl (g.2.1 t0, x))) (hy : (zY g)[t0]? = some (g.2.1 t0, ty)) (hv : Int32.ofNat x.1 = v) (k : V p l e R s m args below meth c A s.heap g nL Q w nc ns lv pc2 (.int v :: st)) : V p l e R s m args below meth c A s.heap g nL Q w nc ns lv pc (.ref a :: st) := by
  subst hp
  exact fun H locs ls hP hD hS hl => va_alen cx.1 cx.2.1 cx.2.2.2.2.2.1 hP q0 t0 he hy hv hd (k H locs ls hP hD hS hl)
theorem z_tb (cx : zC p s m args meth c cc own nL A s.heap g ret) {t N : Nat} {f : Nat → Value} {i : Int32} {v : Value} (hd : decode cc pc = .ok (.baload, 1)) (pc2 : Nat) (hp : pc + 1 = pc2) (hT : va_T .byte t N f A s s.heap) (hi : vp_in i N) (hv : f i.toNatClampNeg = v) (k : V p l e R s m args below meth c A s.heap g nL Q w nc ns lv pc2 (v :: st)) : V p l e R s m args below meth c A s.heap g nL Q w nc ns lv pc (.int i :: .ref t :: st) := by
  subst hp
  exact fun H locs ls hP hD hS hl => va_tb cx.1 cx.2.1 hT hS hi hv hd (k H locs ls hP hD hS hl)
theorem z_gets (cx : zC p s m args meth c cc own nL A s.heap g ret) {C n d : String} {v : Value} {index : Nat} (hd : decode cc pc = .ok (.getstatic index, 3)) (pc2 : Nat) (hp : pc + 3 = pc2) (hZ : va_Z C n d v A s s.heap) (hl : Cond.fieldLink own index C n d ∈ zT) (k : V p l e R s m args below meth c A s.heap g nL Q w nc ns lv pc2 (v :: st)) : V p l e R s m args below meth c A s.heap g nL Q w nc ns lv pc (st) := by
  subst hp
  exact fun H locs ls hP hD hS hl2 => va_gets cx.1 cx.2.1 hZ hS cx.2.2.2.2.1 (cx.2.2.2.1 _ hl) (fun _ h => h) hd (k H locs ls hP hD hS hl2)
theorem z_i2c (cx : zC p s m args meth c cc own nL A s.heap g ret) {x v : Int32} (hd : decode cc pc = .ok (.i2c, 1)) (pc2 : Nat) (hp : pc + 1 = pc2) (hv : (x.toUInt32 % 65536).toInt32 = v) (k : V p l e R s m args below meth c A s.heap g nL Q w nc ns lv pc2 (.int v :: st)) : V p l e R s m args below meth c A s.heap g nL Q w nc ns lv pc (.int x :: st) := by
  subst hp
  exact fun H locs ls hP hD hS hl => lv_i2c cx.1 cx.2.1 hd hv (k H locs ls hP hD hS hl)
theorem z_nret {r v : Int32} {ty : FieldType} {w2 : va_W} (cx : zC p s m args meth c cc own nL A s.heap g (some ty)) (hd : decode cc pc = .ok (.ireturn, 1)) (hn : narrow ty (.int v) = .int v) (hv : v = r) (hw : w = w2) : V p l e R s m args below meth c A s.heap g nL (MQ below (zQi r g A w2) args s nc ns A) w nc ns lv pc [.int v] := by
  subst hv
  subst hw
  exact fun H locs ls hP hD hS hl => W.zret cx.1 cx.2.1 cx.2.2.2.2.2.2.2.1 hn (fun t ht hW => ⟨⟨v, (), rfl, rfl, by rw [ht]; exact hP, va_K.moved hW.alike cx.2.2.2.2.2.1, hD⟩, hS.F ht⟩) hS.2.2 hd cx.2.2.2.2.2.2.2.2
theorem z_callVs_i (cx : zC p s m args meth c cc own nL A s.heap g ret) (hE : zE ks A s) {b : Nat} {C : String} {y : MethodName} {bytes : ByteArray} {maxL index n : Nat} {ty : Option FieldType} {rm : Room} {r : Int32} {As rest : List Value} (hM : zMsi l ks y bytes maxL ty rm g (.ref b :: As) w r) (hd : decode cc pc = .ok (.invokevirtual index, 3)) (pc2 : Nat) (hp : pc + 3 = pc2) (hK : zK y bytes maxL ty n) (hlk : Cond.methodLink own index y ∈ zT) (hin : Cond.instanceMethod y ∈ zT) (hse : Cond.selects C y y ∈ zT) (hC : y.cls = C) (hO : va_O C b A s s.heap) (hrm : rm.cells = 0 ∧ rm.slots = 0) (hR : rm.frames + 1 ≤ R.frames ∧ 8 + (maxL + 11) + rm.locals ≤ R.locals) (hn : As.length = n) (hst0 : st = As.reverse ++ .ref b :: rest) (hrs : (rest.map fun v => v.category).sum ≤ 8) (hroom : nc + 0 ≤ R.cells ∧ ns + 0 ≤ R.slots) (k : V p l e R s m args below meth c A s.heap g nL Q w nc ns lv pc2 (.int r :: rest)) : V p l e R s m args below meth c A s.heap g nL Q w nc ns lv pc (st) := by
  subst hp
  subst hst0
  intro H locs ls hP hD hS hl
  have hF : ∀ q, va_A w H.size q → A q := by
    intro q h
    rcases h with ⟨k9, e9, h⟩ | h
    · exact hD.2 k9 (q, e9) h
    · exact cx.2.2.2.2.2.2.1 q (Nat.le_trans hS.1 h)
  refine va_calli (va_runV (As := As) (rest := rest) ⟨cx.1, cx.2.1, cx.2.2.1, cx.2.2.2.2.1, cx.2.2.2.1⟩ (hM H.size) ⟨callB_of n cx.2.2.2.1 (zU_good hK.1) rfl hrm.1 hrm.2 (cx.2.2.2.1 _ hK.2.1) (cx.2.2.2.1 _ hlk) hK.2.2 hR, cx.2.2.2.1 _ hin, cx.2.2.2.1 _ hse⟩ ⟨zPe_blind, (by obtain ⟨cell, h1, h2, h3, -⟩ := hO.kept hS.2.1; exact ⟨cell, h1, h2, h3⟩), fun U hU hW => ⟨rfl, by rw [hU], by rw [hU]; exact hP, va_K.moved hW.alike cx.2.2.2.2.2.1, hD.weaken (fun _ _ _ _ => trivial), zE_go hE hS hU hW hF⟩⟩ rfl hn hl.1 rfl (lv_room hrs) hd hroom) hS (fun q _ h => hF q h) hF (fun r2 u t H1 locs1 ht hvm hw hB hz1 hk1 hS1 => by
    subst hw
    obtain ⟨hP1, hK1, hD1⟩ := hB
    rw [ht] at hP1
    exact k H1 locs1 ls hP1 (hD1.weaken (fun _ q _ h => hF q.1 h)) hS1 hl)
theorem z_callSs_i (cx : zC p s m args meth c cc own nL A s.heap g ret) (hE : zE ks A s) {y : MethodName} {bytes : ByteArray} {maxL index n : Nat} {ty : Option FieldType} {rm : Room} {r : Int32} {As rest : List Value} (hM : zMsi l ks y bytes maxL ty rm g (As) w r) (hd : decode cc pc = .ok (.invokestatic index, 3)) (pc2 : Nat) (hp : pc + 3 = pc2) (hK : zK y bytes maxL ty n) (hlk : Cond.methodLink own index y ∈ zT) (hst : Cond.static y ∈ zT) (hrm : rm.cells = 0 ∧ rm.slots = 0) (hR : rm.frames + 1 ≤ R.frames ∧ 8 + (maxL + 11) + rm.locals ≤ R.locals) (hn : As.length = n) (hst0 : st = As.reverse ++ rest) (hrs : (rest.map fun v => v.category).sum ≤ 8) (hroom : nc + 0 ≤ R.cells ∧ ns + 0 ≤ R.slots) (k : V p l e R s m args below meth c A s.heap g nL Q w nc ns lv pc2 (.int r :: rest)) : V p l e R s m args below meth c A s.heap g nL Q w nc ns lv pc (st) := by
  subst hp
  subst hst0
  intro H locs ls hP hD hS hl
  have hF : ∀ q, va_A w H.size q → A q := by
    intro q h
    rcases h with ⟨k9, e9, h⟩ | h
    · exact hD.2 k9 (q, e9) h
    · exact cx.2.2.2.2.2.2.1 q (Nat.le_trans hS.1 h)
  refine va_calli (va_runS (As := As) (rest := rest) ⟨cx.1, cx.2.1, cx.2.2.1, cx.2.2.2.2.1, cx.2.2.2.1⟩ (hM H.size) ⟨callB_of n cx.2.2.2.1 (zU_good hK.1) rfl hrm.1 hrm.2 (cx.2.2.2.1 _ hK.2.1) (cx.2.2.2.1 _ hlk) hK.2.2 hR, cx.2.2.2.1 _ hst⟩ ⟨zPe_blind, fun U hU hW => ⟨rfl, by rw [hU], by rw [hU]; exact hP, va_K.moved hW.alike cx.2.2.2.2.2.1, hD.weaken (fun _ _ _ _ => trivial), zE_go hE hS hU hW hF⟩⟩ rfl hn hl.1 rfl (lv_room hrs) hd hroom) hS (fun q _ h => hF q h) hF (fun r2 u t H1 locs1 ht hvm hw hB hz1 hk1 hS1 => by
    subst hw
    obtain ⟨hP1, hK1, hD1⟩ := hB
    rw [ht] at hP1
    exact k H1 locs1 ls hP1 (hD1.weaken (fun _ q _ h => hF q.1 h)) hS1 hl)
theorem z_callVs_l (cx : zC p s m args meth c cc own nL A s.heap g ret) (hE : zE ks A s) {b : Nat} {C : String} {y : MethodName} {bytes : ByteArray} {maxL index n : Nat} {ty : Option FieldType} {rm : Room} {r : Int64} {As rest : List Value} (hM : zMsl l ks y bytes maxL ty rm g (.ref b :: As) w r) (hd : decode cc pc = .ok (.invokevirtual index, 3)) (pc2 : Nat) (hp : pc + 3 = pc2) (hK : zK y bytes maxL ty n) (hlk : Cond.methodLink own index y ∈ zT) (hin : Cond.instanceMethod y ∈ zT) (hse : Cond.selects C y y ∈ zT) (hC : y.cls = C) (hO : va_O C b A s s.heap) (hrm : rm.cells = 0 ∧ rm.slots = 0) (hR : rm.frames + 1 ≤ R.frames ∧ 8 + (maxL + 11) + rm.locals ≤ R.locals) (hn : As.length = n) (hst0 : st = As.reverse ++ .ref b :: rest) (hrs : (rest.map fun v => v.category).sum ≤ 8) (hroom : nc + 0 ≤ R.cells ∧ ns + 0 ≤ R.slots) (k : V p l e R s m args below meth c A s.heap g nL Q w nc ns lv pc2 (.long r :: rest)) : V p l e R s m args below meth c A s.heap g nL Q w nc ns lv pc (st) := by
  subst hp
  subst hst0
  intro H locs ls hP hD hS hl
  have hF : ∀ q, va_A w H.size q → A q := by
    intro q h
    rcases h with ⟨k9, e9, h⟩ | h
    · exact hD.2 k9 (q, e9) h
    · exact cx.2.2.2.2.2.2.1 q (Nat.le_trans hS.1 h)
  refine va_calll (va_runV (As := As) (rest := rest) ⟨cx.1, cx.2.1, cx.2.2.1, cx.2.2.2.2.1, cx.2.2.2.1⟩ (hM H.size) ⟨callB_of n cx.2.2.2.1 (zU_good hK.1) rfl hrm.1 hrm.2 (cx.2.2.2.1 _ hK.2.1) (cx.2.2.2.1 _ hlk) hK.2.2 hR, cx.2.2.2.1 _ hin, cx.2.2.2.1 _ hse⟩ ⟨zPe_blind, (by obtain ⟨cell, h1, h2, h3, -⟩ := hO.kept hS.2.1; exact ⟨cell, h1, h2, h3⟩), fun U hU hW => ⟨rfl, by rw [hU], by rw [hU]; exact hP, va_K.moved hW.alike cx.2.2.2.2.2.1, hD.weaken (fun _ _ _ _ => trivial), zE_go hE hS hU hW hF⟩⟩ rfl hn hl.1 rfl (lv_room hrs) hd hroom) hS (fun q _ h => hF q h) hF (fun r2 u t H1 locs1 ht hvm hw hB hz1 hk1 hS1 => by
    subst hw
    obtain ⟨hP1, hK1, hD1⟩ := hB
    rw [ht] at hP1
    exact k H1 locs1 ls hP1 (hD1.weaken (fun _ q _ h => hF q.1 h)) hS1 hl)
theorem z_callSs_l (cx : zC p s m args meth c cc own nL A s.heap g ret) (hE : zE ks A s) {y : MethodName} {bytes : ByteArray} {maxL index n : Nat} {ty : Option FieldType} {rm : Room} {r : Int64} {As rest : List Value} (hM : zMsl l ks y bytes maxL ty rm g (As) w r) (hd : decode cc pc = .ok (.invokestatic index, 3)) (pc2 : Nat) (hp : pc + 3 = pc2) (hK : zK y bytes maxL ty n) (hlk : Cond.methodLink own index y ∈ zT) (hst : Cond.static y ∈ zT) (hrm : rm.cells = 0 ∧ rm.slots = 0) (hR : rm.frames + 1 ≤ R.frames ∧ 8 + (maxL + 11) + rm.locals ≤ R.locals) (hn : As.length = n) (hst0 : st = As.reverse ++ rest) (hrs : (rest.map fun v => v.category).sum ≤ 8) (hroom : nc + 0 ≤ R.cells ∧ ns + 0 ≤ R.slots) (k : V p l e R s m args below meth c A s.heap g nL Q w nc ns lv pc2 (.long r :: rest)) : V p l e R s m args below meth c A s.heap g nL Q w nc ns lv pc (st) := by
  subst hp
  subst hst0
  intro H locs ls hP hD hS hl
  have hF : ∀ q, va_A w H.size q → A q := by
    intro q h
    rcases h with ⟨k9, e9, h⟩ | h
    · exact hD.2 k9 (q, e9) h
    · exact cx.2.2.2.2.2.2.1 q (Nat.le_trans hS.1 h)
  refine va_calll (va_runS (As := As) (rest := rest) ⟨cx.1, cx.2.1, cx.2.2.1, cx.2.2.2.2.1, cx.2.2.2.1⟩ (hM H.size) ⟨callB_of n cx.2.2.2.1 (zU_good hK.1) rfl hrm.1 hrm.2 (cx.2.2.2.1 _ hK.2.1) (cx.2.2.2.1 _ hlk) hK.2.2 hR, cx.2.2.2.1 _ hst⟩ ⟨zPe_blind, fun U hU hW => ⟨rfl, by rw [hU], by rw [hU]; exact hP, va_K.moved hW.alike cx.2.2.2.2.2.1, hD.weaken (fun _ _ _ _ => trivial), zE_go hE hS hU hW hF⟩⟩ rfl hn hl.1 rfl (lv_room hrs) hd hroom) hS (fun q _ h => hF q h) hF (fun r2 u t H1 locs1 ht hvm hw hB hz1 hk1 hS1 => by
    subst hw
    obtain ⟨hP1, hK1, hD1⟩ := hB
    rw [ht] at hP1
    exact k H1 locs1 ls hP1 (hD1.weaken (fun _ q _ h => hF q.1 h)) hS1 hl)
/-- a method without an answer that needs what stands beside -/
def zMsv (l : Launch) (k : ZS) (y : MethodName) (cc : ByteArray) (nL : Nat) (rm : Room) (g : ZG) (as : List Value) (w : va_W) : Prop := ∀ sz : Nat, Met l y (zU y cc nL none) rm (zPe k as g w sz) (zQv g (va_A w sz) w) 0 0 (va_A w sz)
theorem zMsv_of {k : ZS} {y : MethodName} {rm : Room} {as : List Value} (ho : y.cls = own) (hy : plainName y.cls = true) (hlen : (lg_sl as).length ≤ nL) (hlv : lv_args 0 as = lv)
    (body : ∀ (p : Program) (e : Env) (s : State) (m : MethodId) (args : Array Value) (below : List Frame) (meth : Method) (c : Code) (A : Nat → Prop) (Q : State → Prop), MQ below (zQv g A w) args s 0 0 A = Q → zC p s m args meth c cc own nL A s.heap g none → zE k A s → V p l e rm s m args below meth c A s.heap g nL Q w 0 0 lv 0 []) : zMsv l k y cc nL rm g as w := by
  intro sz
  subst ho
  refine Met.ofW (cc := cc) (maxL := nL) (ret := none) hy rfl ?_
  intro p e s m args below meth c s₁ B hml hv
  obtain ⟨rfl, hsz, hP, hK, hD0, hE⟩ := hv
  subst hsz
  have hts := atoms_spec (ws := zU y cc nL none) B.pre
  rw [lg_entry_eq]
  exact body p e s m _ below meth c (va_A w s.heap.size) _ rfl ⟨B.exec, B.bytes, hml, fun x hx => hts x (List.mem_cons_of_mem _ hx), findClass_of_methodNamed B.named, hK, fun q h => Or.inr h, B.returns, B.notSynchronized⟩ hE s.heap [] _ hP hD0.self va_S.rf (hlv ▸ lv_entry as hlen)
theorem z_callSs_v (cx : zC p s m args meth c cc own nL A s.heap g ret) (hE : zE ks A s) {y : MethodName} {bytes : ByteArray} {maxL index n : Nat} {rm : Room} {As rest : List Value} (hM : zMsv l ks y bytes maxL rm g As w) (hd : decode cc pc = .ok (.invokestatic index, 3)) (pc2 : Nat) (hp : pc + 3 = pc2) (hK : zK y bytes maxL none n) (hlk : Cond.methodLink own index y ∈ zT) (hst : Cond.static y ∈ zT) (hrm : rm.cells = 0 ∧ rm.slots = 0) (hR : rm.frames + 1 ≤ R.frames ∧ 8 + (maxL + 11) + rm.locals ≤ R.locals) (hn : As.length = n) (hst0 : st = As.reverse ++ rest) (hrs : (rest.map fun v => v.category).sum ≤ 8) (hroom : nc + 0 ≤ R.cells ∧ ns + 0 ≤ R.slots) (k : V p l e R s m args below meth c A s.heap g nL Q w nc ns lv pc2 (rest)) : V p l e R s m args below meth c A s.heap g nL Q w nc ns lv pc (st) := by
  subst hp
  subst hst0
  intro H locs ls hP hD hS hl
  have hF : ∀ q, va_A w H.size q → A q := by
    intro q h
    rcases h with ⟨k9, e9, h⟩ | h
    · exact hD.2 k9 (q, e9) h
    · exact cx.2.2.2.2.2.2.1 q (Nat.le_trans hS.1 h)
  refine va_callv (va_runS (As := As) (rest := rest) ⟨cx.1, cx.2.1, cx.2.2.1, cx.2.2.2.2.1, cx.2.2.2.1⟩ (hM H.size) ⟨callB_of n cx.2.2.2.1 (zU_good hK.1) rfl hrm.1 hrm.2 (cx.2.2.2.1 _ hK.2.1) (cx.2.2.2.1 _ hlk) hK.2.2 hR, cx.2.2.2.1 _ hst⟩ ⟨zPe_blind, fun U hU hW => ⟨rfl, by rw [hU], by rw [hU]; exact hP, va_K.moved hW.alike cx.2.2.2.2.2.1, hD.weaken (fun _ _ _ _ => trivial), zE_go hE hS hU hW hF⟩⟩ rfl hn hl.1 rfl (lv_room hrs) hd hroom) hS (fun q _ h => hF q h) hF (fun u t H1 locs1 ht hvm hw hB hz1 hk1 hS1 => by
    obtain ⟨hP1, hK1, hD1⟩ := hB
    rw [ht] at hP1
    exact k H1 locs1 ls hP1 (hD1.weaken (fun _ q _ h => hF q.1 h)) hS1 hl)
end SS
