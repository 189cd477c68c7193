-- needs: 18.xwrap
/-! rows of the law: the script, calls that need what stands beside, calls of a method with a handler -/
section LL
variable {p : Program} {l : Launch} {e : Env} {R : Room} {s : State} {m : MethodId} {args : Array Value} {below : List Frame} {meth : Method} {c : Code} {cc : ByteArray} {own : String} {nL : Nat} {A : Nat → Prop} {g : ZG} {ret : Option FieldType} {Q : State → Prop} {w w' : va_W} {nc ns : Nat} {lv lv' : List (Nat × Value)} {pc : Nat} {st : List Value} {ks : ZS}
theorem z_sld (cx : zC p s m args meth c cc own nL A s.heap g ret) {b L : Nat} {xs : Nat → Int32} (hX : va_X b L xs s s.heap) (hbl : b < s.heap.size) (hbA : ¬ A b) {i : Int} (hi : 0 ≤ i ∧ i < L) (hL : L ≤ 3072) (hd : decode cc pc = .ok (.iaload, 1)) (pc2 : Nat) (hp : pc + 1 = pc2) (k : V p l e R s m args below meth c A s.heap g nL Q w nc ns lv pc2 (.int (zI (zsc xs i)) :: st)) : V p l e R s m args below meth c A s.heap g nL Q w nc ns lv pc (.int (zI i) :: .ref b :: st) := by
  subst hp
  intro H locs ls hP hD hS hl
  have e1 : (zI i).toInt = i := nm_eq (by omega) (by omega)
  have e2 : (zI i).toNatClampNeg = i.toNat := by rw [← Int32.toNat_toInt, e1]
  have e3 : vp_in (zI i) L := vp_in_iff.mpr (by rw [e1]; exact hi)
  refine va_sld cx.1 cx.2.1 hX hbl hbA hS e3 hd ?_
  have q := k H locs ls hP hD hS hl
  unfold zsc at q
  rw [zI_toInt] at q
  rw [e2]
  exact q
theorem z_slen (cx : zC p s m args meth c cc own nL A s.heap g ret) {b L : Nat} {xs : Nat → Int32} (hX : va_X b L xs s s.heap) (hbl : b < s.heap.size) (hbA : ¬ A b) (hd : decode cc pc = .ok (.arraylength, 1)) (pc2 : Nat) (hp : pc + 1 = pc2) (k : V p l e R s m args below meth c A s.heap g nL Q w nc ns lv pc2 (.int (zI L) :: st)) : V p l e R s m args below meth c A s.heap g nL Q w nc ns lv pc (.ref b :: st) := by
  subst hp
  exact fun H locs ls hP hD hS hl => va_slen cx.1 cx.2.1 hX hbl hbA hS hd (k H locs ls hP hD hS hl)
theorem z_callFw (cx : zC p s m args meth c cc own nL A s.heap g ret) (hE : zE ks A s) {wr wc wc' : va_W} {hh : List (Nat × Nat × Nat × Nat)} {y : MethodName} {bytes : ByteArray} {maxL index n : Nat} {rm : Room} {r : Int32} {As rest : List Value} (hM : zMw l ks y bytes maxL hh rm g As wc wc' r) (hd : decode cc pc = .ok (.invokestatic index, 3)) (pc2 : Nat) (hp : pc + 3 = pc2) (hco : Cond.codeWith y bytes maxL (some .int) hh ∈ zT) (hini : Cond.initialized y.cls ∈ zT) (hy : y.cls ≠ "java/lang/invoke/MethodHandle" ∧ y.cls ≠ "java/lang/invoke/VarHandle" ∧ (parseMethodDescriptor y.desc).map (fun d => d.parameters.length) = some n) (hlk : Cond.methodLink own index y ∈ zT) (hst : Cond.static y ∈ zT) (hw : w.Perm (wr ++ wc)) (hw' : (wr ++ wc').Perm w') (hR : rm.frames + 1 ≤ R.frames ∧ 8 + (maxL + 11) + rm.locals ≤ R.locals) (hn : As.length = n) (hst0 : st = As.reverse ++ rest) (hrs : (rest.map fun v => v.category).sum ≤ 8) (hroom : nc + rm.cells ≤ R.cells ∧ ns + rm.slots ≤ R.slots) (k : V p l e R s m args below meth c A s.heap g nL Q w' (nc + rm.cells) (ns + rm.slots) lv pc2 (.int r :: rest)) : V p l e R s m args below meth c A s.heap g nL Q w nc ns lv pc st := by
  subst hp
  subst hst0
  refine z_perm hw ?_
  intro H locs ls hP hD hS hl
  have hF := z_freeA cx hD hS
  have hG : GoodIn zT (va_wsS own index y (Cond.codeWith y bytes maxL (some .int) hh :: zT)) := by
    intro w hw
    have h2 : w ∈ zT := by
      unfold va_wsS at hw
      simp only [List.mem_append, List.mem_cons, List.not_mem_nil, or_false] at hw
      rcases hw with h | h | h
      · rcases h with h | h | h <;> subst h <;> assumption
      · subst h; exact hco
      · exact h
    exact ⟨h2, good_of_word (zT_good _ h2)⟩
  refine va_calli (vx_runSW (As := As) (rest := rest) ⟨cx.1, cx.2.1, cx.2.2.1, cx.2.2.2.2.1, cx.2.2.2.1⟩ (hM H.size) (vx_cwSW n cx.2.2.2.1 hG rfl rfl rfl hy hR) ⟨zPe_blind, fun U hU hW => ⟨rfl, by rw [hU], by rw [hU]; exact va_P_right hP, va_K.moved hW.alike cx.2.2.2.2.2.1, va_D_right hD, zE_go hE hS hU hW hF⟩⟩ rfl hn hl.1 rfl (lv_room hrs) hd hroom) hS (fun q _ h => hF q h) hF (fun r2 u t H1 locs1 ht hvm hw hB hz1 hk1 hS1 => ?_)
  subst hw
  obtain ⟨hP1, hK1, hD1⟩ := hB
  rw [ht] at hP1
  obtain ⟨hP2, hD2⟩ := z_after hP hD hk1 hF hP1 hD1
  exact k H1 locs1 ls (va_P_perm hw' hP2) (va_D_perm hw' hD2) hS1 hl
theorem z_sldx {ρ : Type} {r : ρ} {K : Option ρ} (cx : zC p s m args meth c cc own nL A s.heap g ret) {b L : Nat} {xs : Nat → Int32} (hX : va_X b L xs s s.heap) (hbl : b < s.heap.size) (hbA : ¬ A b) (hL : L ≤ 3072) {i : Int} (hd : decode cc pc = .ok (.iaload, 1)) (pc2 : Nat) (hp : pc + 1 = pc2) (h : ix L i K = some r) (k : (0 ≤ i ∧ i < L) → K = some r → V p l e R s m args below meth c A s.heap g nL Q w nc ns lv pc2 (.int (zI (zsc xs i)) :: st)) : V p l e R s m args below meth c A s.heap g nL Q w nc ns lv pc (.int (zI i) :: .ref b :: st) := by
  obtain ⟨hi, h⟩ := ix_i h
  exact z_sld cx hX hbl hbA hi hL hd pc2 hp (k hi h)
theorem y_callFw {ρ : Type} {r : ρ} (cx : zC p s m args meth c cc own nL A s.heap g ret) (hE : zE ks A s) {B : Type} {e0 : Option B} {W : B → va_W} {rf : B → Int32} {K : B → Option ρ} {hh : List (Nat × Nat × Nat × Nat)} {y : MethodName} {bytes : ByteArray} {maxL index n : Nat} {rm : Room} {As rest : List Value} (hM : ∀ q, e0 = some q → zMw l ks y bytes maxL hh rm g As w (W q) (rf q)) (hd : decode cc pc = .ok (.invokestatic index, 3)) (pc2 : Nat) (hp : pc + 3 = pc2) (hco : Cond.codeWith y bytes maxL (some .int) hh ∈ zT) (hini : Cond.initialized y.cls ∈ zT) (hy : y.cls ≠ "java/lang/invoke/MethodHandle" ∧ y.cls ≠ "java/lang/invoke/VarHandle" ∧ (parseMethodDescriptor y.desc).map (fun d => d.parameters.length) = some n) (hlk : Cond.methodLink own index y ∈ zT) (hst : Cond.static y ∈ zT) (hR : rm.frames + 1 ≤ R.frames ∧ 8 + (maxL + 11) + rm.locals ≤ R.locals) (hn : As.length = n) (hst0 : st = As.reverse ++ rest) (hrs : (rest.map fun v => v.category).sum ≤ 8) (hroom : nc + rm.cells ≤ R.cells ∧ ns + rm.slots ≤ R.slots) (h : bd e0 K = some r) (k : ∀ q, K q = some r → V p l e R s m args below meth c A s.heap g nL Q (W q) (nc + rm.cells) (ns + rm.slots) lv pc2 (.int (rf q) :: rest)) : V p l e R s m args below meth c A s.heap g nL Q w nc ns lv pc st := by
  obtain ⟨q, hq, h⟩ := bd_i h
  exact z_callFw (wr := []) cx hE (hM q hq) hd pc2 hp hco hini hy hlk hst (List.Perm.refl _) (List.Perm.refl _) hR hn hst0 hrs hroom (k q h)
/-- a method that needs what stands beside and may make cells -/
def zMe (l : Launch) (k : ZS) (y : MethodName) (cc : ByteArray) (nL : Nat) (ret : Option FieldType) (rm : Room) (mc ms : Nat) (g : ZG) (as : List Value) (w w2 : va_W) (r : Int32) : Prop := ∀ sz : Nat, Met l y (zU y cc nL ret) rm (zPe k as g w sz) (zQi r g (va_A w sz) w2) mc ms (va_A w sz)
theorem zMe_of {y : MethodName} {rm : Room} {mc ms : Nat} {as : List Value} {r : Int32} (ho : y.cls = own) (hy : plainName y.cls = true) (hlen : (lg_sl as).length ≤ nL) (hlv : lv_args 0 as = lv)
    (body : ∀ (p : Program) (e : Env) (s : State) (m : MethodId) (args : Array Value) (below : List Frame) (meth : Method) (c : Code) (A : Nat → Prop) (Q : State → Prop), MQ below (zQi r g A w') args s mc ms A = Q → zC p s m args meth c cc own nL A s.heap g ret → zE ks A s → V p l e rm s m args below meth c A s.heap g nL Q w 0 0 lv 0 []) : zMe l ks y cc nL ret rm mc ms g as w w' r := by
  intro sz
  subst ho
  refine Met.ofW (cc := cc) (maxL := nL) (ret := ret) hy rfl ?_
  intro p e s m args below meth c s₁ B hml hv
  obtain ⟨rfl, hsz, hP, hK, hD0, hE⟩ := hv
  subst hsz
  have hts := atoms_spec (ws := zU y cc nL ret) B.pre
  rw [lg_entry_eq]
  exact body p e s m _ below meth c (va_A w s.heap.size) _ rfl ⟨B.exec, B.bytes, hml, fun x hx => hts x (List.mem_cons_of_mem _ hx), findClass_of_methodNamed B.named, hK, fun q h => Or.inr h, B.returns, B.notSynchronized⟩ hE s.heap [] _ hP hD0.self va_S.rf (hlv ▸ lv_entry as hlen)
theorem z_callSe (cx : zC p s m args meth c cc own nL A s.heap g ret) (hE : zE ks A s) {y : MethodName} {bytes : ByteArray} {maxL index n mc ms : Nat} {ty : Option FieldType} {rm : Room} {r : Int32} {As rest : List Value} (hM : zMe l ks y bytes maxL ty rm mc ms g As w w' r) (hd : decode cc pc = .ok (.invokestatic index, 3)) (pc2 : Nat) (hp : pc + 3 = pc2) (hK : zK y bytes maxL ty n) (hlk : Cond.methodLink own index y ∈ zT) (hst : Cond.static y ∈ zT) (hrm : rm.cells = mc ∧ rm.slots = ms) (hR : rm.frames + 1 ≤ R.frames ∧ 8 + (maxL + 11) + rm.locals ≤ R.locals) (hn : As.length = n) (hst0 : st = As.reverse ++ rest) (hrs : (rest.map fun v => v.category).sum ≤ 8) (hroom : nc + mc ≤ R.cells ∧ ns + ms ≤ R.slots) (k : V p l e R s m args below meth c A s.heap g nL Q w' (nc + mc) (ns + ms) lv pc2 (.int r :: rest)) : V p l e R s m args below meth c A s.heap g nL Q w nc ns lv pc (st) := by
  subst hp
  subst hst0
  intro H locs ls hP hD hS hl
  have hF : ∀ q, va_A w H.size q → A q := by
    intro q h
    rcases h with ⟨k9, e9, h⟩ | h
    · exact hD.2 k9 (q, e9) h
    · exact cx.2.2.2.2.2.2.1 q (Nat.le_trans hS.1 h)
  refine va_calli (va_runS (As := As) (rest := rest) ⟨cx.1, cx.2.1, cx.2.2.1, cx.2.2.2.2.1, cx.2.2.2.1⟩ (hM H.size) ⟨callB_of n cx.2.2.2.1 (zU_good hK.1) rfl hrm.1 hrm.2 (cx.2.2.2.1 _ hK.2.1) (cx.2.2.2.1 _ hlk) hK.2.2 hR, cx.2.2.2.1 _ hst⟩ ⟨zPe_blind, fun U hU hW => ⟨rfl, by rw [hU], by rw [hU]; exact hP, va_K.moved hW.alike cx.2.2.2.2.2.1, hD.weaken (fun _ _ _ _ => trivial), zE_go hE hS hU hW hF⟩⟩ rfl hn hl.1 rfl (lv_room hrs) hd hroom) hS (fun q _ h => hF q h) hF (fun r2 u t H1 locs1 ht hvm hw hB hz1 hk1 hS1 => by
    subst hw
    obtain ⟨hP1, hK1, hD1⟩ := hB
    rw [ht] at hP1
    exact k H1 locs1 ls hP1 (hD1.weaken (fun _ q _ h => hF q.1 h)) hS1 hl)
theorem y_callSe {ρ : Type} {r : ρ} (cx : zC p s m args meth c cc own nL A s.heap g ret) (hE : zE ks A s) {B : Type} {e0 : Option B} {W : B → va_W} {rf : B → Int32} {K : B → Option ρ} {y : MethodName} {bytes : ByteArray} {maxL index n mc ms : Nat} {ty : Option FieldType} {rm : Room} {As rest : List Value} (hM : ∀ q, e0 = some q → zMe l ks y bytes maxL ty rm mc ms g As w (W q) (rf q)) (hd : decode cc pc = .ok (.invokestatic index, 3)) (pc2 : Nat) (hp : pc + 3 = pc2) (hK : zK y bytes maxL ty n) (hlk : Cond.methodLink own index y ∈ zT) (hst : Cond.static y ∈ zT) (hrm : rm.cells = mc ∧ rm.slots = ms) (hR : rm.frames + 1 ≤ R.frames ∧ 8 + (maxL + 11) + rm.locals ≤ R.locals) (hn : As.length = n) (hst0 : st = As.reverse ++ rest) (hrs : (rest.map fun v => v.category).sum ≤ 8) (hroom : nc + mc ≤ R.cells ∧ ns + ms ≤ R.slots) (h : bd e0 K = some r) (k : ∀ q, K q = some r → V p l e R s m args below meth c A s.heap g nL Q (W q) (nc + mc) (ns + ms) lv pc2 (.int (rf q) :: rest)) : V p l e R s m args below meth c A s.heap g nL Q w nc ns lv pc st := by
  obtain ⟨q, hq, h⟩ := bd_i h
  exact z_callSe cx hE (hM q hq) hd pc2 hp hK hlk hst hrm hR hn hst0 hrs hroom (k q h)
/-- a method with a handler, on runs in which nothing is thrown -/
def zMh (l : Launch) (y : MethodName) (cc : ByteArray) (nL : Nat) (hh : List (Nat × Nat × Nat × Nat)) (rm : Room) (g : ZG) (as : List Value) (w w2 : va_W) (r : Int32) : Prop := ∀ sz : Nat, Met l y (Cond.codeWith y cc nL (some .int) hh :: zT) rm (zP as g w sz) (zQi r g (va_A w sz) w2) 0 0 (va_A w sz)
theorem zMh_of {y : MethodName} {hh : List (Nat × Nat × Nat × Nat)} {rm : Room} {as : List Value} {r : Int32} (ho : y.cls = own) (hy : plainName y.cls = true) (hlen : (lg_sl as).length ≤ nL) (hlv : lv_args 0 as = lv)
    (body : ∀ (p : Program) (e : Env) (s : State) (m : MethodId) (args : Array Value) (below : List Frame) (meth : Method) (c : Code) (A : Nat → Prop) (Q : State → Prop), MQ below (zQi r g A w') args s 0 0 A = Q → zC p s m args meth c cc own nL A s.heap g (some .int) → V p l e rm s m args below meth c A s.heap g nL Q w 0 0 lv 0 []) : zMh l y cc nL hh rm g as w w' r := by
  intro sz
  subst ho
  refine Met_ofWH (cc := cc) (maxL := nL) (ret := some .int) (hh := hh) hy rfl ?_
  intro p e s m args below meth c s₁ B hml hv
  obtain ⟨rfl, hsz, hP, hK, hD0⟩ := hv
  subst hsz
  have hts := atoms_spec (ws := Cond.codeWith y cc nL (some .int) hh :: zT) B.pre
  rw [lg_entry_eq]
  exact body p e s m _ below meth c (va_A w s.heap.size) _ rfl ⟨B.exec, B.bytes, hml, fun x hx => hts x (List.mem_cons_of_mem _ hx), findClass_of_methodNamed B.named, hK, fun q h => Or.inr h, B.returns, B.notSynchronized⟩ s.heap [] _ hP hD0.self va_S.rf (hlv ▸ lv_entry as hlen)
theorem z_callSh (cx : zC p s m args meth c cc own nL A s.heap g ret) {hh : List (Nat × Nat × Nat × Nat)} {y : MethodName} {bytes : ByteArray} {maxL index n : Nat} {rm : Room} {r : Int32} {As rest : List Value} (hM : zMh l y bytes maxL hh rm g As w w' r) (hd : decode cc pc = .ok (.invokestatic index, 3)) (pc2 : Nat) (hp : pc + 3 = pc2) (hco : Cond.codeWith y bytes maxL (some .int) hh ∈ zT) (hini : Cond.initialized y.cls ∈ zT) (hy : y.cls ≠ "java/lang/invoke/MethodHandle" ∧ y.cls ≠ "java/lang/invoke/VarHandle" ∧ (parseMethodDescriptor y.desc).map (fun d => d.parameters.length) = some n) (hlk : Cond.methodLink own index y ∈ zT) (hst : Cond.static y ∈ zT) (hrm : rm.cells = 0 ∧ rm.slots = 0) (hR : rm.frames + 1 ≤ R.frames ∧ 8 + (maxL + 11) + rm.locals ≤ R.locals) (hn : As.length = n) (hst0 : st = As.reverse ++ rest) (hrs : (rest.map fun v => v.category).sum ≤ 8) (hroom : nc + 0 ≤ R.cells ∧ ns + 0 ≤ R.slots) (k : V p l e R s m args below meth c A s.heap g nL Q w' nc ns lv pc2 (.int r :: rest)) : V p l e R s m args below meth c A s.heap g nL Q w nc ns lv pc st := by
  subst hp
  subst hst0
  intro H locs ls hP hD hS hl
  have hF : ∀ q, va_A w H.size q → A q := by
    intro q h
    rcases h with ⟨k9, e9, h⟩ | h
    · exact hD.2 k9 (q, e9) h
    · exact cx.2.2.2.2.2.2.1 q (Nat.le_trans hS.1 h)
  have hG : GoodIn zT (va_wsS own index y (Cond.codeWith y bytes maxL (some .int) hh :: zT)) := by
    intro w hw
    have h2 : w ∈ zT := by
      unfold va_wsS at hw
      simp only [List.mem_append, List.mem_cons, List.not_mem_nil, or_false] at hw
      rcases hw with h | h | h
      · rcases h with h | h | h <;> subst h <;> assumption
      · subst h; exact hco
      · exact h
    exact ⟨h2, good_of_word (zT_good _ h2)⟩
  refine va_calli (vx_runSW (As := As) (rest := rest) ⟨cx.1, cx.2.1, cx.2.2.1, cx.2.2.2.2.1, cx.2.2.2.1⟩ (hM H.size) (vx_cwSW n cx.2.2.2.1 hG rfl hrm.1 hrm.2 hy hR) ⟨zP_blind, fun U hU hW => ⟨rfl, by rw [hU], by rw [hU]; exact hP, va_K.moved hW.alike cx.2.2.2.2.2.1, hD.weaken (fun _ _ _ _ => trivial)⟩⟩ rfl hn hl.1 rfl (lv_room hrs) hd hroom) hS (fun q _ h => hF q h) hF (fun r2 u t H1 locs1 ht hvm hw hB hz1 hk1 hS1 => by
    subst hw
    obtain ⟨hP1, hK1, hD1⟩ := hB
    rw [ht] at hP1
    exact k H1 locs1 ls hP1 (hD1.weaken (fun _ q _ h => hF q.1 h)) hS1 hl)
theorem y_callSh {ρ : Type} {r : ρ} (cx : zC p s m args meth c cc own nL A s.heap g ret) {B : Type} {e0 : Option B} {W : B → va_W} {rf : B → Int32} {K : B → Option ρ} {hh : List (Nat × Nat × Nat × Nat)} {y : MethodName} {bytes : ByteArray} {maxL index n : Nat} {rm : Room} {As rest : List Value} (hM : ∀ q, e0 = some q → zMh l y bytes maxL hh rm g As w (W q) (rf q)) (hd : decode cc pc = .ok (.invokestatic index, 3)) (pc2 : Nat) (hp : pc + 3 = pc2) (hco : Cond.codeWith y bytes maxL (some .int) hh ∈ zT) (hini : Cond.initialized y.cls ∈ zT) (hy : y.cls ≠ "java/lang/invoke/MethodHandle" ∧ y.cls ≠ "java/lang/invoke/VarHandle" ∧ (parseMethodDescriptor y.desc).map (fun d => d.parameters.length) = some n) (hlk : Cond.methodLink own index y ∈ zT) (hst : Cond.static y ∈ zT) (hrm : rm.cells = 0 ∧ rm.slots = 0) (hR : rm.frames + 1 ≤ R.frames ∧ 8 + (maxL + 11) + rm.locals ≤ R.locals) (hn : As.length = n) (hst0 : st = As.reverse ++ rest) (hrs : (rest.map fun v => v.category).sum ≤ 8) (hroom : nc + 0 ≤ R.cells ∧ ns + 0 ≤ R.slots) (h : bd e0 K = some r) (k : ∀ q, K q = some r → V p l e R s m args below meth c A s.heap g nL Q (W q) nc ns lv pc2 (.int (rf q) :: rest)) : V p l e R s m args below meth c A s.heap g nL Q w nc ns lv pc st := by
  obtain ⟨q, hq, h⟩ := bd_i h
  exact z_callSh cx (hM q hq) hd pc2 hp hco hini hy hlk hst hrm hR hn hst0 hrs hroom (k q h)
theorem ite_s {α : Type} {c : Prop} [Decidable c] {a r : α} (h : (if c then some a else none) = some r) : c ∧ a = r := by
  by_cases q : c
  · rw [if_pos q] at h; exact ⟨q, Option.some.inj h⟩
  · rw [if_neg q] at h; cases h
end LL
