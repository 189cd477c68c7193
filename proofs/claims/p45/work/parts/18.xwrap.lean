-- needs: 18.xline
/-! calls on a part of the world; the law's own line and ring, which catch -/
theorem Met_ofWH {l : Launch} {y : MethodName} {ws ws' : List Cond} {rm : Room} {Pc : Array Value → State → Prop} {Qc : Array Value → State → Outcome → State → Prop} {mc ms : Nat} {free : Addr → Prop} {cc : ByteArray} {maxL : Nat} {ret : Option FieldType} {hh : List (Nat × Nat × Nat × Nat)}
    (hy : plainName y.cls = true) (hw : ws = Cond.codeWith y cc maxL ret hh :: ws')
    (body : ∀ p e s m args below meth c s₁, BodyLoose p l y (headSpec ws rm) cc maxL ret e s m args below meth c s₁ → c.maxLocals = maxL → Pc args s →
      W p l e (headSpec ws rm).room s m args below meth c s.heap [] 0 0 (MQ below Qc args s mc ms free) (entryFrame m args maxL)) : Met l y ws rm Pc Qc mc ms free := by
  have h := vx_ofWH (l := l) (y := y) (ws := ws) (ws' := ws') (rm := rm) (Pc := Pc) (Qc := Qc) (XC := fun _ _ _ => False) (mc := mc) (ms := ms) (free := free) (cc := cc) (maxL := maxL) (ret := ret) (hh := hh) hy hw (fun p e s m args below meth c s₁ B h1 h2 => vx_ret (body p e s m args below meth c s₁ B h1 h2))
  intro p e h1 h2 h3 s m args below h4 h5 h6 h7
  obtain ⟨n, o, a1, a2, a3, a4⟩ := h p e h1 h2 h3 s m args below h4 h5 h6 h7
  refine ⟨n, o, a1, a2, a3, ?_⟩
  rcases a4 with q | ⟨q, -, E, ce, L, hX, -⟩
  · exact q
  · exact hX.elim
def zMw (l : Launch) (ks : ZS) (y : MethodName) (cc : ByteArray) (nL : Nat) (hh : List (Nat × Nat × Nat × Nat)) (rm : Room) (g : ZG) (as : List Value) (w w2 : va_W) (r : Int32) : Prop := ∀ sz : Nat, Met l y (Cond.codeWith y cc nL (some .int) hh :: zT) rm (zPe ks as g w sz) (zQi r g (va_A w sz) w2) rm.cells rm.slots (va_A w sz)
section WW
variable {p : Program} {l : Launch} {e : Env} {R : Room} {s : State} {m : MethodId} {args : Array Value} {below : List Frame} {meth : Method} {c : Code} {cc : ByteArray} {own : String} {nL : Nat} {A : Nat → Prop} {g : ZG} {ret : Option FieldType} {Q : State → Prop} {w w' : va_W} {nc ns : Nat} {lv lv' : List (Nat × Value)} {pc : Nat} {st : List Value} {ks : ZS}
/-- a call whose callee may throw, under a handler of the caller -/
theorem z_callX (cx : zC p s m args meth c cc own nL A s.heap g ret) (hE : zE ks A s) {ad : Nat → Nat} {wx wx' wr : va_W} {b : Nat} {C : String} {y : MethodName} {bytes : ByteArray} {maxL index n : Nat} {rm : Room} {k9 : Int} {v : Int32} {As rest : List Value} (hM : zMx l ks y bytes maxL rm (g.1, g.2.1, ad) (.ref b :: As) wx wx' k9 v) (hd : decode cc pc = .ok (.invokevirtual index, 3)) (pc2 : Nat) (hp : pc + 3 = pc2) (hK : zK y bytes maxL (some .int) n) (hlk : Cond.methodLink own index y ∈ zT) (hin : Cond.instanceMethod y ∈ zT) (hse : Cond.selects C y y ∈ zT) (hC : y.cls = C) {q0 ci N : Nat} {T : u_T} {fs : List Value} (he : wx[q0]? = some (b, .inr (ci, fs))) (hc : vwCl[ci]? = some (C, T, N)) (hw : w = wx ++ wr) (hR : rm.frames + 1 ≤ R.frames ∧ 8 + (maxL + 11) + rm.locals ≤ R.locals) (hn : As.length = n) (hst0 : st = As.reverse ++ .ref b :: rest) (hrs : (rest.map fun v => v.category).sum ≤ 8) (hroom : nc + rm.cells ≤ R.cells ∧ ns + rm.slots ≤ R.slots)
    (x : ExceptionTableEntry) (htab : c.exceptionTable.toList = [x]) (hcov : covers x pc = true) (hx0 : x.catchType ≠ 0) (hcl : Cond.classLink own x.catchType nsE ∈ zT)
    (kn : k9 = 0 → V p l e R s m args below meth c A s.heap g nL Q (wx' ++ wr) (nc + rm.cells) (ns + rm.slots) lv pc2 (.int v :: rest))
    (kx : k9 = 1 → ∀ q : Nat, V p l e R s m args below meth c A s.heap g nL Q (wx' ++ wr) (nc + rm.cells) (ns + rm.slots) lv x.handlerPc [.ref q]) : V p l e R s m args below meth c A s.heap g nL Q w nc ns lv pc st := by
  subst hp
  subst hst0
  subst hw
  intro H locs ls hP hD hS hl
  have hP0 := va_P_perm (List.perm_append_comm (l₁ := wx) (l₂ := wr)) hP
  have hD0 := va_D_perm (List.perm_append_comm (l₁ := wx) (l₂ := wr)) hD
  have hF := z_freeA cx hD0 hS
  have hPx := va_P_right hP0
  have hb : ∀ {H1 : Heap} {t : State}, t.heap = H1 → s.vm.Alike t.vm → (∀ q : Nat, q < H.size → ¬ va_A wx H.size q → H1[q]? = H[q]?) → zB (g.1, g.2.1, ad) (va_A wx H.size) wx' () t → va_P g.1 vwCl (wx' ++ wr) H1 ∧ va_D A (wx' ++ wr) := by
    intro H1 t ht hvm hk1 hB
    obtain ⟨hP1, hK1, hD1⟩ := hB
    rw [ht] at hP1
    obtain ⟨hP2, hD2⟩ := z_after (g := g) hP0 hD0 hk1 hF hP1 hD1
    exact ⟨va_P_perm List.perm_append_comm hP2, va_D_perm List.perm_append_comm hD2⟩
  refine vx_calli (vx_runV (As := As) (rest := rest) ⟨cx.1, cx.2.1, cx.2.2.1, cx.2.2.2.2.1, cx.2.2.2.1⟩ (hM H.size) ⟨callB_of n cx.2.2.2.1 (zU_good hK.1) rfl rfl rfl (cx.2.2.2.1 _ hK.2.1) (cx.2.2.2.1 _ hlk) hK.2.2 hR, cx.2.2.2.1 _ hin, cx.2.2.2.1 _ hse⟩ ⟨zPe_blind, va_recv cx.2.2.2.2.2.1 hPx hc he, fun U hU hW => ⟨rfl, by rw [hU], by rw [hU]; exact hPx, va_K.moved hW.alike cx.2.2.2.2.2.1, va_D_right hD0, zE_go hE hS hU hW hF⟩⟩ rfl hn hl.1 rfl (lv_room hrs) hd hroom) hS (fun q _ h => hF q h) hF (fun q _ h => hF q h) (fun E ce q9 u t H1 locs1 ht hvm hpx hB hz1 hk1 hS1 h1 h2 h3 => ?_) (fun r2 u t H1 locs1 ht hvm hw hB hz1 hk1 hS1 => ?_)
  · obtain ⟨rfl, hB⟩ := hB
    obtain ⟨hP2, hD2⟩ := hb ht hvm hk1 hB
    exact vx_catch cx.2.2.2.2.1 [] x [] htab (fun _ h => nomatch h) hcov hx0 (cx.2.2.2.1 _ hcl) (va_Nw.use rfl hE.1.2.2.2.2.2.2.2.2.2.2.2.2.2.2) h1 h2 h3 (kx hpx q9 H1 locs1 ls hP2 hD2 hS1 hl)
  · obtain ⟨rfl, hk0⟩ := hw
    obtain ⟨hP2, hD2⟩ := hb ht hvm hk1 hB
    exact kn hk0 H1 locs1 ls hP2 hD2 hS1 hl
theorem z_lout (cx : zC p s m args meth c cc own nL A s.heap g ret) {o9 : Nat} {f : Nat → Int} {x : Int} {wr : va_W} (hd : decode cc pc = .ok (.lastore, 1)) (pc2 : Nat) (hp : pc + 1 = pc2) (hw : w = wr ++ [(o9, .inl (g.2.1 1, 1, .inr (.inl (wj f))))]) (k : V p l e R s m args below meth c A s.heap g nL Q (wr ++ [(o9, .inl (g.2.1 1, 1, .inr (.inl (wj (up f 0 x)))))]) nc ns lv pc2 st) : V p l e R s m args below meth c A s.heap g nL Q w nc ns lv pc (.long (zJ x) :: .int (zI 0) :: .ref o9 :: st) := by
  subst hw
  refine z_perm (List.perm_append_comm (l₁ := wr)) ?_
  refine z_last (q0 := 0) (n := 1) (i := zI 0) (x := zJ x) (w' := [(o9, .inl (g.2.1 1, 1, .inr (.inl (wj (up f 0 x)))))] ++ wr) cx hd pc2 hp rfl (zin_I (i := 0) (by decide) (by decide)) (by rw [ztn (i := 0) (n := 1) (by decide) (by decide), wj_up]; rfl) ?_
  exact z_perm List.perm_append_comm k
theorem zMw_of {y : MethodName} {hh : List (Nat × Nat × Nat × Nat)} {rm : Room} {as : List Value} {r : Int32} (ho : y.cls = own) (hy : plainName y.cls = true) (hlen : (lg_sl as).length ≤ nL) (hlv : lv_args 0 as = lv)
    (body : ∀ (p : Program) (e : Env) (s : State) (m : MethodId) (args : Array Value) (below : List Frame) (meth : Method) (c : Code) (A : Nat → Prop) (Q : State → Prop), MQ below (zQi r g A w') args s rm.cells rm.slots A = Q → zC p s m args meth c cc own nL A s.heap g (some .int) → zE ks A s → c.exceptionTable.toList = tableOf hh → V p l e rm s m args below meth c A s.heap g nL Q w 0 0 lv 0 []) : zMw l ks y cc nL hh rm g as w w' r := by
  intro sz
  subst ho
  refine Met_ofWH (cc := cc) (maxL := nL) (ret := some .int) (hh := hh) hy rfl ?_
  intro p e s m args below meth c s₁ B hml hv
  obtain ⟨rfl, hsz, hP, hK, hD0, hE⟩ := hv
  subst hsz
  have hts := atoms_spec (ws := Cond.codeWith y cc nL (some .int) hh :: zT) B.pre
  have htb : c.exceptionTable.toList = tableOf hh := vx_table (x := y) B (hts _ List.mem_cons_self)
  rw [lg_entry_eq]
  exact body p e s m _ below meth c (va_A w s.heap.size) _ rfl ⟨B.exec, B.bytes, hml, fun x hx => hts x (List.mem_cons_of_mem _ hx), findClass_of_methodNamed B.named, hK, fun q h => Or.inr h, B.returns, B.notSynchronized⟩ hE htb s.heap [] _ hP hD0.self va_S.rf (hlv ▸ lv_entry as hlen)
end WW
