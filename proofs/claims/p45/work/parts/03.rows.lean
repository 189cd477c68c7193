/-! the judgement over the machine, its rows -/
theorem ite_t {α : Type} {c : Prop} [Decidable c] {a b r : α} (h : (if c then a else b) = r) (hc : c) : a = r := by rw [if_pos hc] at h; exact h
theorem ite_f {α : Type} {c : Prop} [Decidable c] {a b r : α} (h : (if c then a else b) = r) (hc : ¬ c) : b = r := by rw [if_neg hc] at h; exact h
theorem br0 {i : Int32} (h : i = 0 ∨ i = 1) : narrow .boolean (.int i) = .int i := by
  rcases h with h | h <;> subst h <;> rfl
theorem brf {i : Int32} (h : i = 0 ∨ i = 1) : fits .boolean (.int i) = true := by
  rcases h with h | h <;> subst h <;> rfl
theorem brn {i : Int32} (h : i = 0 ∨ i = 1) : vp_nar .boolean i = i := by
  rcases h with h | h <;> subst h <;> rfl
/-! the judgement -/
abbrev ZG : Type := va_G × (Nat → ClassId) × (Nat → Nat)
def zY (g : ZG) : List (ClassId × FieldType) := [(g.2.1 0, .int), (g.2.1 1, .long), (g.2.1 2, .int), (g.2.1 3, .object "ForestPacks$Net")]
def zC (p : Program) (s : State) (m : MethodId) (args : Array Value) (meth : Method) (c : Code) (cc : ByteArray) (own : String) (nL : Nat) (A : Nat → Prop) (H0 : Heap) (g : ZG) (ret : Option FieldType) : Prop :=
  p.tables.exec = Jvm.exec ∧ c.code = cc ∧ c.maxLocals = nL ∧ (∀ w ∈ zT, w.before args s = true) ∧ s.vm.findClass own = some m.cls ∧ va_K g.1 vwCl (zY g) s ∧ (∀ q, H0.size ≤ q → A q) ∧ meth.sig.returnType = ret ∧ meth.locks = false
def V (p : Program) (l : Launch) (e : Env) (R : Room) (s : State) (m : MethodId) (args : Array Value) (below : List Frame) (meth : Method) (c : Code) (A : Nat → Prop) (H0 : Heap) (g : ZG) (nL : Nat) (Q : State → Prop) (w : va_W) (nc ns : Nat) (lv : List (Nat × Value)) (pc : Nat) (st : List Value) : Prop :=
  ∀ (H : Heap) (locs : List Loc) (ls : Array Slot), va_P g.1 vwCl w H → va_D A w → va_S A H0 H locs → lv_has ls nL lv → W p l e R s m args below meth c H locs nc ns Q (F0 m pc ls st)
def zP (as : List Value) (g : ZG) (w : va_W) (sz : Nat) : Array Value → State → Prop := va_Pc as (fun U => U.heap.size = sz ∧ va_P g.1 vwCl w U.heap ∧ va_K g.1 vwCl (zY g) U ∧ va_D (fun _ => True) w)
def zB (g : ZG) (A : Nat → Prop) (w : va_W) : Unit → State → Prop := fun _ t => va_P g.1 vwCl w t.heap ∧ va_K g.1 vwCl (zY g) t ∧ va_D A w
def zQi (r : Int32) (g : ZG) (A : Nat → Prop) (w : va_W) : Array Value → State → Outcome → State → Prop := va_Qi (fun x (_ : Unit) => x = r) (zB g A w) A
def zQl (r : Int64) (g : ZG) (A : Nat → Prop) (w : va_W) : Array Value → State → Outcome → State → Prop := va_Ql (fun x (_ : Unit) => x = r) (zB g A w) A
def zQv (g : ZG) (A : Nat → Prop) (w : va_W) : Array Value → State → Outcome → State → Prop := va_Qv (fun (_ : Unit) => True) (zB g A w) A
/-- a contract: from the world w to the world w2, nothing new -/
def zMi (l : Launch) (y : MethodName) (cc : ByteArray) (nL : Nat) (ret : Option FieldType) (rm : Room) (g : ZG) (as : List Value) (w w2 : va_W) (r : Int32) : Prop := ∀ sz : Nat, Met l y (zU y cc nL ret) rm (zP as g w sz) (zQi r g (va_A w sz) w2) 0 0 (va_A w sz)
def zMl (l : Launch) (y : MethodName) (cc : ByteArray) (nL : Nat) (ret : Option FieldType) (rm : Room) (g : ZG) (as : List Value) (w w2 : va_W) (r : Int64) : Prop := ∀ sz : Nat, Met l y (zU y cc nL ret) rm (zP as g w sz) (zQl r g (va_A w sz) w2) 0 0 (va_A w sz)
def zMv (l : Launch) (y : MethodName) (cc : ByteArray) (nL : Nat) (ret : Option FieldType) (rm : Room) (g : ZG) (as : List Value) (w w2 : va_W) : Prop := ∀ sz : Nat, Met l y (zU y cc nL ret) rm (zP as g w sz) (zQv g (va_A w sz) w2) 0 0 (va_A w sz)
/-- what a callee is, by the words -/
def zK (y : MethodName) (cc : ByteArray) (nL : Nat) (ret : Option FieldType) (n : Nat) : Prop := Cond.code y cc nL ret ∈ zT ∧ Cond.initialized y.cls ∈ zT ∧ (y.cls ≠ "java/lang/invoke/MethodHandle" ∧ y.cls ≠ "java/lang/invoke/VarHandle" ∧ (parseMethodDescriptor y.desc).map (fun d => d.parameters.length) = some n)
theorem zP_blind {as : List Value} {g : ZG} {w : va_W} {sz : Nat} : FrameBlind (zP as g w sz) := fun a U gf mk q => by
  obtain ⟨q0, q1, qP, qK, qD⟩ := q
  exact ⟨q0, q1, qP, va_K.moved (u := U) (U := U.calling gf mk a) (Vm.Alike.refl U.vm) qK, qD⟩
theorem zgood {b : List Cond} {ws : List Cond} (h : ∀ w ∈ ws, w ∈ b) (hg : ∀ w ∈ ws, goodWord w = true) : GoodIn b ws := fun w hw => ⟨h w hw, good_of_word (hg w hw)⟩
section VV
variable {p : Program} {l : Launch} {e : Env} {R : Room} {s : State} {m : MethodId} {args : Array Value} {below : List Frame} {meth : Method} {c : Code} {cc : ByteArray} {own : String} {nL : Nat} {A : Nat → Prop} {H0 : Heap} {g : ZG} {ret : Option FieldType} {Q : State → Prop} {w w' : va_W} {nc ns : Nat} {lv lv' : List (Nat × Value)} {pc : Nat} {st : List Value}
theorem z_iconst (cx : zC p s m args meth c cc own nL A H0 g ret) {n : Int} {v : Int32} (hd : decode cc pc = .ok (.iconst n, 1)) (pc2 : Nat) (hp : pc + 1 = pc2) (hv : Int32.ofInt n = v) (k : V p l e R s m args below meth c A H0 g nL Q w nc ns lv pc2 (.int v :: st)) : V p l e R s m args below meth c A H0 g nL Q w nc ns lv pc (st) := by
  subst hp
  exact fun H locs ls hP hD hS hl => lv_iconst cx.1 cx.2.1 hd hv (k H locs ls hP hD hS hl)
theorem z_bipush (cx : zC p s m args meth c cc own nL A H0 g ret) {n : Int} {v : Int32} (hd : decode cc pc = .ok (.bipush n, 2)) (pc2 : Nat) (hp : pc + 2 = pc2) (hv : (Int8.ofInt n).toInt32 = v) (k : V p l e R s m args below meth c A H0 g nL Q w nc ns lv pc2 (.int v :: st)) : V p l e R s m args below meth c A H0 g nL Q w nc ns lv pc (st) := by
  subst hp
  exact fun H locs ls hP hD hS hl => lv_bipush cx.1 cx.2.1 hd hv (k H locs ls hP hD hS hl)
theorem z_sipush (cx : zC p s m args meth c cc own nL A H0 g ret) {n : Int} {v : Int32} (hd : decode cc pc = .ok (.sipush n, 3)) (pc2 : Nat) (hp : pc + 3 = pc2) (hv : (Int16.ofInt n).toInt32 = v) (k : V p l e R s m args below meth c A H0 g nL Q w nc ns lv pc2 (.int v :: st)) : V p l e R s m args below meth c A H0 g nL Q w nc ns lv pc (st) := by
  subst hp
  exact fun H locs ls hP hD hS hl => lv_sipush cx.1 cx.2.1 hd hv (k H locs ls hP hD hS hl)
theorem z_lconst (cx : zC p s m args meth c cc own nL A H0 g ret) {n : Fin 2} {v : Int64} (hd : decode cc pc = .ok (.lconst n, 1)) (pc2 : Nat) (hp : pc + 1 = pc2) (hv : Int64.ofNat (n : Nat) = v) (k : V p l e R s m args below meth c A H0 g nL Q w nc ns lv pc2 (.long v :: st)) : V p l e R s m args below meth c A H0 g nL Q w nc ns lv pc (st) := by
  subst hp
  exact fun H locs ls hP hD hS hl => lv_lconst cx.1 cx.2.1 hd hv (k H locs ls hP hD hS hl)
theorem z_iload_n (cx : zC p s m args meth c cc own nL A H0 g ret) {q : Fin 4} {i : Nat} {x : Int32} (hd : decode cc pc = .ok (.iload_n q, 1)) (pc2 : Nat) (hp : pc + 1 = pc2) (hi : (q : Nat) = i) (k0 : Nat) (hk : lv[k0]? = some (i, .int x)) (k : V p l e R s m args below meth c A H0 g nL Q w nc ns lv pc2 (.int x :: st)) : V p l e R s m args below meth c A H0 g nL Q w nc ns lv pc (st) := by
  subst hp
  exact fun H locs ls hP hD hS hl => lv_iload_n cx.1 cx.2.1 hd hi (lv_at hl k0 hk) (k H locs ls hP hD hS hl)
theorem z_iload (cx : zC p s m args meth c cc own nL A H0 g ret) {i : Nat} {x : Int32} (hd : decode cc pc = .ok (.iload i, 2)) (pc2 : Nat) (hp : pc + 2 = pc2) (k0 : Nat) (hk : lv[k0]? = some (i, .int x)) (k : V p l e R s m args below meth c A H0 g nL Q w nc ns lv pc2 (.int x :: st)) : V p l e R s m args below meth c A H0 g nL Q w nc ns lv pc (st) := by
  subst hp
  exact fun H locs ls hP hD hS hl => lv_iload cx.1 cx.2.1 hd (lv_at hl k0 hk) (k H locs ls hP hD hS hl)
theorem z_istore_n (cx : zC p s m args meth c cc own nL A H0 g ret) {i : Nat} {x y : Int32} {q : Fin 4} (hd : decode cc pc = .ok (.istore_n q, 1)) (pc2 : Nat) (hp : pc + 1 = pc2) (hi : (q : Nat) = i) (hn : i < nL) (hl2 : (i, Value.int y) :: lv.filter (fun q => !(q.1 == i) && !(q.1 + 1 == i && q.2.category == 2)) = lv') (hy : y = x) (k : V p l e R s m args below meth c A H0 g nL Q w nc ns lv' pc2 (st)) : V p l e R s m args below meth c A H0 g nL Q w nc ns lv pc (.int x :: st) := by
  subst hp
  subst hy
  exact fun H locs ls hP hD hS hl => lv_istore_n cx.1 cx.2.1 hd hi hl hn hl2 (fun ls hl => k H locs ls hP hD hS hl)
theorem z_istore (cx : zC p s m args meth c cc own nL A H0 g ret) {i : Nat} {x y : Int32}  (hd : decode cc pc = .ok (.istore i, 2)) (pc2 : Nat) (hp : pc + 2 = pc2)  (hn : i < nL) (hl2 : (i, Value.int y) :: lv.filter (fun q => !(q.1 == i) && !(q.1 + 1 == i && q.2.category == 2)) = lv') (hy : y = x) (k : V p l e R s m args below meth c A H0 g nL Q w nc ns lv' pc2 (st)) : V p l e R s m args below meth c A H0 g nL Q w nc ns lv pc (.int x :: st) := by
  subst hp
  subst hy
  exact fun H locs ls hP hD hS hl => lv_istore cx.1 cx.2.1 hd  hl hn hl2 (fun ls hl => k H locs ls hP hD hS hl)
theorem z_lload_n (cx : zC p s m args meth c cc own nL A H0 g ret) {q : Fin 4} {i : Nat} {x : Int64} (hd : decode cc pc = .ok (.lload_n q, 1)) (pc2 : Nat) (hp : pc + 1 = pc2) (hi : (q : Nat) = i) (k0 : Nat) (hk : lv[k0]? = some (i, .long x)) (k : V p l e R s m args below meth c A H0 g nL Q w nc ns lv pc2 (.long x :: st)) : V p l e R s m args below meth c A H0 g nL Q w nc ns lv pc (st) := by
  subst hp
  exact fun H locs ls hP hD hS hl => lv_lload_n cx.1 cx.2.1 hd hi (lv_at hl k0 hk) (k H locs ls hP hD hS hl)
theorem z_lload (cx : zC p s m args meth c cc own nL A H0 g ret) {i : Nat} {x : Int64} (hd : decode cc pc = .ok (.lload i, 2)) (pc2 : Nat) (hp : pc + 2 = pc2) (k0 : Nat) (hk : lv[k0]? = some (i, .long x)) (k : V p l e R s m args below meth c A H0 g nL Q w nc ns lv pc2 (.long x :: st)) : V p l e R s m args below meth c A H0 g nL Q w nc ns lv pc (st) := by
  subst hp
  exact fun H locs ls hP hD hS hl => lv_lload cx.1 cx.2.1 hd (lv_at hl k0 hk) (k H locs ls hP hD hS hl)
theorem z_lstore_n (cx : zC p s m args meth c cc own nL A H0 g ret) {i : Nat} {x y : Int64} {q : Fin 4} (hd : decode cc pc = .ok (.lstore_n q, 1)) (pc2 : Nat) (hp : pc + 1 = pc2) (hi : (q : Nat) = i) (hn : i + 1 < nL) (hl2 : (i, Value.long y) :: lv.filter (fun q => !(q.1 == i) && (!(q.1 == i + 1) && !(q.1 + 1 == i && q.2.category == 2))) = lv') (hy : y = x) (k : V p l e R s m args below meth c A H0 g nL Q w nc ns lv' pc2 (st)) : V p l e R s m args below meth c A H0 g nL Q w nc ns lv pc (.long x :: st) := by
  subst hp
  subst hy
  exact fun H locs ls hP hD hS hl => lv_lstore_n cx.1 cx.2.1 hd hi hl hn hl2 (fun ls hl => k H locs ls hP hD hS hl)
theorem z_lstore (cx : zC p s m args meth c cc own nL A H0 g ret) {i : Nat} {x y : Int64}  (hd : decode cc pc = .ok (.lstore i, 2)) (pc2 : Nat) (hp : pc + 2 = pc2)  (hn : i + 1 < nL) (hl2 : (i, Value.long y) :: lv.filter (fun q => !(q.1 == i) && (!(q.1 == i + 1) && !(q.1 + 1 == i && q.2.category == 2))) = lv') (hy : y = x) (k : V p l e R s m args below meth c A H0 g nL Q w nc ns lv' pc2 (st)) : V p l e R s m args below meth c A H0 g nL Q w nc ns lv pc (.long x :: st) := by
  subst hp
  subst hy
  exact fun H locs ls hP hD hS hl => lv_lstore cx.1 cx.2.1 hd  hl hn hl2 (fun ls hl => k H locs ls hP hD hS hl)
theorem z_aload_n (cx : zC p s m args meth c cc own nL A H0 g ret) {q : Fin 4} {i : Nat} {x : Nat} (hd : decode cc pc = .ok (.aload_n q, 1)) (pc2 : Nat) (hp : pc + 1 = pc2) (hi : (q : Nat) = i) (k0 : Nat) (hk : lv[k0]? = some (i, .ref x)) (k : V p l e R s m args below meth c A H0 g nL Q w nc ns lv pc2 (.ref x :: st)) : V p l e R s m args below meth c A H0 g nL Q w nc ns lv pc (st) := by
  subst hp
  exact fun H locs ls hP hD hS hl => lv_aload_n cx.1 cx.2.1 hd hi (lv_at hl k0 hk) (k H locs ls hP hD hS hl)
theorem z_aload (cx : zC p s m args meth c cc own nL A H0 g ret) {i : Nat} {x : Nat} (hd : decode cc pc = .ok (.aload i, 2)) (pc2 : Nat) (hp : pc + 2 = pc2) (k0 : Nat) (hk : lv[k0]? = some (i, .ref x)) (k : V p l e R s m args below meth c A H0 g nL Q w nc ns lv pc2 (.ref x :: st)) : V p l e R s m args below meth c A H0 g nL Q w nc ns lv pc (st) := by
  subst hp
  exact fun H locs ls hP hD hS hl => lv_aload cx.1 cx.2.1 hd (lv_at hl k0 hk) (k H locs ls hP hD hS hl)
theorem z_astore_n (cx : zC p s m args meth c cc own nL A H0 g ret) {i : Nat} {x y : Nat} {q : Fin 4} (hd : decode cc pc = .ok (.astore_n q, 1)) (pc2 : Nat) (hp : pc + 1 = pc2) (hi : (q : Nat) = i) (hn : i < nL) (hl2 : (i, Value.ref y) :: lv.filter (fun q => !(q.1 == i) && !(q.1 + 1 == i && q.2.category == 2)) = lv') (hy : y = x) (k : V p l e R s m args below meth c A H0 g nL Q w nc ns lv' pc2 (st)) : V p l e R s m args below meth c A H0 g nL Q w nc ns lv pc (.ref x :: st) := by
  subst hp
  subst hy
  exact fun H locs ls hP hD hS hl => lv_astore_n cx.1 cx.2.1 hd hi hl hn hl2 (fun ls hl => k H locs ls hP hD hS hl)
theorem z_astore (cx : zC p s m args meth c cc own nL A H0 g ret) {i : Nat} {x y : Nat}  (hd : decode cc pc = .ok (.astore i, 2)) (pc2 : Nat) (hp : pc + 2 = pc2)  (hn : i < nL) (hl2 : (i, Value.ref y) :: lv.filter (fun q => !(q.1 == i) && !(q.1 + 1 == i && q.2.category == 2)) = lv') (hy : y = x) (k : V p l e R s m args below meth c A H0 g nL Q w nc ns lv' pc2 (st)) : V p l e R s m args below meth c A H0 g nL Q w nc ns lv pc (.ref x :: st) := by
  subst hp
  subst hy
  exact fun H locs ls hP hD hS hl => lv_astore cx.1 cx.2.1 hd  hl hn hl2 (fun ls hl => k H locs ls hP hD hS hl)
theorem z_iinc (cx : zC p s m args meth c cc own nL A H0 g ret) {i : Nat} {n : Int} {x y : Int32} (k0 : Nat) (hd : decode cc pc = .ok (.iinc i n, 3)) (pc2 : Nat) (hp : pc + 3 = pc2) (hk : lv[k0]? = some (i, .int x)) (hn : i < nL) (hl2 : (i, Value.int y) :: lv.filter (fun q => !(q.1 == i) && !(q.1 + 1 == i && q.2.category == 2)) = lv') (hy : y = x + Int32.ofInt n) (k : V p l e R s m args below meth c A H0 g nL Q w nc ns lv' pc2 (st)) : V p l e R s m args below meth c A H0 g nL Q w nc ns lv pc (st) := by
  subst hp
  exact fun H locs ls hP hD hS hl => lv_iinc cx.1 cx.2.1 hd hl hk hy.symm hn hl2 (fun ls hl => k H locs ls hP hD hS hl)
theorem z_iadd (cx : zC p s m args meth c cc own nL A H0 g ret) {x y : Int32} (hd : decode cc pc = .ok (.iadd, 1)) (pc2 : Nat) (hp : pc + 1 = pc2)  (k : V p l e R s m args below meth c A H0 g nL Q w nc ns lv pc2 (.int (x + y) :: st)) : V p l e R s m args below meth c A H0 g nL Q w nc ns lv pc (.int y :: .int x :: st) := by
  subst hp
  exact fun H locs ls hP hD hS hl => lv_iadd cx.1 cx.2.1 hd  (k H locs ls hP hD hS hl)
theorem z_isub (cx : zC p s m args meth c cc own nL A H0 g ret) {x y : Int32} (hd : decode cc pc = .ok (.isub, 1)) (pc2 : Nat) (hp : pc + 1 = pc2)  (k : V p l e R s m args below meth c A H0 g nL Q w nc ns lv pc2 (.int (x - y) :: st)) : V p l e R s m args below meth c A H0 g nL Q w nc ns lv pc (.int y :: .int x :: st) := by
  subst hp
  exact fun H locs ls hP hD hS hl => lv_isub cx.1 cx.2.1 hd  (k H locs ls hP hD hS hl)
theorem z_imul (cx : zC p s m args meth c cc own nL A H0 g ret) {x y : Int32} (hd : decode cc pc = .ok (.imul, 1)) (pc2 : Nat) (hp : pc + 1 = pc2)  (k : V p l e R s m args below meth c A H0 g nL Q w nc ns lv pc2 (.int (x * y) :: st)) : V p l e R s m args below meth c A H0 g nL Q w nc ns lv pc (.int y :: .int x :: st) := by
  subst hp
  exact fun H locs ls hP hD hS hl => lv_imul cx.1 cx.2.1 hd  (k H locs ls hP hD hS hl)
theorem z_iand (cx : zC p s m args meth c cc own nL A H0 g ret) {x y : Int32} (hd : decode cc pc = .ok (.iand, 1)) (pc2 : Nat) (hp : pc + 1 = pc2)  (k : V p l e R s m args below meth c A H0 g nL Q w nc ns lv pc2 (.int (x &&& y) :: st)) : V p l e R s m args below meth c A H0 g nL Q w nc ns lv pc (.int y :: .int x :: st) := by
  subst hp
  exact fun H locs ls hP hD hS hl => lv_iand cx.1 cx.2.1 hd  (k H locs ls hP hD hS hl)
theorem z_ior (cx : zC p s m args meth c cc own nL A H0 g ret) {x y : Int32} (hd : decode cc pc = .ok (.ior, 1)) (pc2 : Nat) (hp : pc + 1 = pc2)  (k : V p l e R s m args below meth c A H0 g nL Q w nc ns lv pc2 (.int (x ||| y) :: st)) : V p l e R s m args below meth c A H0 g nL Q w nc ns lv pc (.int y :: .int x :: st) := by
  subst hp
  exact fun H locs ls hP hD hS hl => lv_ior cx.1 cx.2.1 hd  (k H locs ls hP hD hS hl)
theorem z_ixor (cx : zC p s m args meth c cc own nL A H0 g ret) {x y : Int32} (hd : decode cc pc = .ok (.ixor, 1)) (pc2 : Nat) (hp : pc + 1 = pc2)  (k : V p l e R s m args below meth c A H0 g nL Q w nc ns lv pc2 (.int (x ^^^ y) :: st)) : V p l e R s m args below meth c A H0 g nL Q w nc ns lv pc (.int y :: .int x :: st) := by
  subst hp
  exact fun H locs ls hP hD hS hl => lv_ixor cx.1 cx.2.1 hd  (k H locs ls hP hD hS hl)
theorem z_ishl (cx : zC p s m args meth c cc own nL A H0 g ret) {x y : Int32} (hd : decode cc pc = .ok (.ishl, 1)) (pc2 : Nat) (hp : pc + 1 = pc2)  (k : V p l e R s m args below meth c A H0 g nL Q w nc ns lv pc2 (.int (x <<< (y &&& 31)) :: st)) : V p l e R s m args below meth c A H0 g nL Q w nc ns lv pc (.int y :: .int x :: st) := by
  subst hp
  exact fun H locs ls hP hD hS hl => lv_ishl cx.1 cx.2.1 hd  (k H locs ls hP hD hS hl)
theorem z_ishr (cx : zC p s m args meth c cc own nL A H0 g ret) {x y : Int32} (hd : decode cc pc = .ok (.ishr, 1)) (pc2 : Nat) (hp : pc + 1 = pc2)  (k : V p l e R s m args below meth c A H0 g nL Q w nc ns lv pc2 (.int (x >>> (y &&& 31)) :: st)) : V p l e R s m args below meth c A H0 g nL Q w nc ns lv pc (.int y :: .int x :: st) := by
  subst hp
  exact fun H locs ls hP hD hS hl => lv_ishr cx.1 cx.2.1 hd  (k H locs ls hP hD hS hl)
theorem z_iushr (cx : zC p s m args meth c cc own nL A H0 g ret) {x y : Int32} (hd : decode cc pc = .ok (.iushr, 1)) (pc2 : Nat) (hp : pc + 1 = pc2)  (k : V p l e R s m args below meth c A H0 g nL Q w nc ns lv pc2 (.int ((x.toUInt32 >>> (y.toUInt32 &&& Int32.toUInt32 31)).toInt32) :: st)) : V p l e R s m args below meth c A H0 g nL Q w nc ns lv pc (.int y :: .int x :: st) := by
  subst hp
  exact fun H locs ls hP hD hS hl => lv_iushr cx.1 cx.2.1 hd rfl (k H locs ls hP hD hS hl)
theorem z_idiv (cx : zC p s m args meth c cc own nL A H0 g ret) {x y : Int32} (hd : decode cc pc = .ok (.idiv, 1)) (pc2 : Nat) (hp : pc + 1 = pc2) (hne : ¬ y = 0) (k : V p l e R s m args below meth c A H0 g nL Q w nc ns lv pc2 (.int (x / y) :: st)) : V p l e R s m args below meth c A H0 g nL Q w nc ns lv pc (.int y :: .int x :: st) := by
  subst hp
  exact fun H locs ls hP hD hS hl => lv_idiv cx.1 cx.2.1 hd hne (k H locs ls hP hD hS hl)
theorem z_irem (cx : zC p s m args meth c cc own nL A H0 g ret) {x y : Int32} (hd : decode cc pc = .ok (.irem, 1)) (pc2 : Nat) (hp : pc + 1 = pc2) (hne : ¬ y = 0) (k : V p l e R s m args below meth c A H0 g nL Q w nc ns lv pc2 (.int (x - x / y * y) :: st)) : V p l e R s m args below meth c A H0 g nL Q w nc ns lv pc (.int y :: .int x :: st) := by
  subst hp
  exact fun H locs ls hP hD hS hl => lv_irem cx.1 cx.2.1 hd hne (k H locs ls hP hD hS hl)
theorem z_ineg (cx : zC p s m args meth c cc own nL A H0 g ret) {x : Int32} (hd : decode cc pc = .ok (.ineg, 1)) (pc2 : Nat) (hp : pc + 1 = pc2)  (k : V p l e R s m args below meth c A H0 g nL Q w nc ns lv pc2 (.int (-x) :: st)) : V p l e R s m args below meth c A H0 g nL Q w nc ns lv pc (.int x :: st) := by
  subst hp
  exact fun H locs ls hP hD hS hl => lv_ineg cx.1 cx.2.1 hd  (k H locs ls hP hD hS hl)
theorem z_ladd (cx : zC p s m args meth c cc own nL A H0 g ret) {x y : Int64} (hd : decode cc pc = .ok (.ladd, 1)) (pc2 : Nat) (hp : pc + 1 = pc2)  (k : V p l e R s m args below meth c A H0 g nL Q w nc ns lv pc2 (.long (x + y) :: st)) : V p l e R s m args below meth c A H0 g nL Q w nc ns lv pc (.long y :: .long x :: st) := by
  subst hp
  exact fun H locs ls hP hD hS hl => lv_ladd cx.1 cx.2.1 hd  (k H locs ls hP hD hS hl)
theorem z_lsub (cx : zC p s m args meth c cc own nL A H0 g ret) {x y : Int64} (hd : decode cc pc = .ok (.lsub, 1)) (pc2 : Nat) (hp : pc + 1 = pc2)  (k : V p l e R s m args below meth c A H0 g nL Q w nc ns lv pc2 (.long (x - y) :: st)) : V p l e R s m args below meth c A H0 g nL Q w nc ns lv pc (.long y :: .long x :: st) := by
  subst hp
  exact fun H locs ls hP hD hS hl => lv_lsub cx.1 cx.2.1 hd  (k H locs ls hP hD hS hl)
theorem z_lmul (cx : zC p s m args meth c cc own nL A H0 g ret) {x y : Int64} (hd : decode cc pc = .ok (.lmul, 1)) (pc2 : Nat) (hp : pc + 1 = pc2)  (k : V p l e R s m args below meth c A H0 g nL Q w nc ns lv pc2 (.long (x * y) :: st)) : V p l e R s m args below meth c A H0 g nL Q w nc ns lv pc (.long y :: .long x :: st) := by
  subst hp
  exact fun H locs ls hP hD hS hl => lv_lmul cx.1 cx.2.1 hd  (k H locs ls hP hD hS hl)
theorem z_lcmp (cx : zC p s m args meth c cc own nL A H0 g ret) {x y : Int64} (hd : decode cc pc = .ok (.lcmp, 1)) (pc2 : Nat) (hp : pc + 1 = pc2)  (k : V p l e R s m args below meth c A H0 g nL Q w nc ns lv pc2 (.int (lg_cmp x y) :: st)) : V p l e R s m args below meth c A H0 g nL Q w nc ns lv pc (.long y :: .long x :: st) := by
  subst hp
  exact fun H locs ls hP hD hS hl => W.lcmp cx.1 cx.2.1 hd  (k H locs ls hP hD hS hl)
theorem z_i2l (cx : zC p s m args meth c cc own nL A H0 g ret) {x : Int32} (hd : decode cc pc = .ok (.i2l, 1)) (pc2 : Nat) (hp : pc + 1 = pc2)  (k : V p l e R s m args below meth c A H0 g nL Q w nc ns lv pc2 (.long x.toInt64 :: st)) : V p l e R s m args below meth c A H0 g nL Q w nc ns lv pc (.int x :: st) := by
  subst hp
  exact fun H locs ls hP hD hS hl => lv_i2l cx.1 cx.2.1 hd rfl (k H locs ls hP hD hS hl)
theorem z_l2i (cx : zC p s m args meth c cc own nL A H0 g ret) {x : Int64} (hd : decode cc pc = .ok (.l2i, 1)) (pc2 : Nat) (hp : pc + 1 = pc2)  (k : V p l e R s m args below meth c A H0 g nL Q w nc ns lv pc2 (.int x.toInt32 :: st)) : V p l e R s m args below meth c A H0 g nL Q w nc ns lv pc (.long x :: st) := by
  subst hp
  exact fun H locs ls hP hD hS hl => lv_l2i cx.1 cx.2.1 hd rfl (k H locs ls hP hD hS hl)
theorem z_dup (cx : zC p s m args meth c cc own nL A H0 g ret) {x : Value} (hd : decode cc pc = .ok (.dup, 1)) (pc2 : Nat) (hp : pc + 1 = pc2) (hx : x.category = 1) (k : V p l e R s m args below meth c A H0 g nL Q w nc ns lv pc2 (x :: x :: st)) : V p l e R s m args below meth c A H0 g nL Q w nc ns lv pc (x :: st) := by
  subst hp
  exact fun H locs ls hP hD hS hl => lv_dup cx.1 cx.2.1 hd hx (k H locs ls hP hD hS hl)
theorem z_dup2 (cx : zC p s m args meth c cc own nL A H0 g ret) {x y : Value} (hd : decode cc pc = .ok (.dup2, 1)) (pc2 : Nat) (hp : pc + 1 = pc2) (hx : x.category = 1) (hy : y.category = 1) (k : V p l e R s m args below meth c A H0 g nL Q w nc ns lv pc2 (x :: y :: x :: y :: st)) : V p l e R s m args below meth c A H0 g nL Q w nc ns lv pc (x :: y :: st) := by
  subst hp
  exact fun H locs ls hP hD hS hl => lv_dup2_11 cx.1 cx.2.1 hd hx hy (k H locs ls hP hD hS hl)
theorem z_pop (cx : zC p s m args meth c cc own nL A H0 g ret) {x : Value} (hd : decode cc pc = .ok (.pop, 1)) (pc2 : Nat) (hp : pc + 1 = pc2) (hx : x.category = 1) (k : V p l e R s m args below meth c A H0 g nL Q w nc ns lv pc2 (st)) : V p l e R s m args below meth c A H0 g nL Q w nc ns lv pc (x :: st) := by
  subst hp
  exact fun H locs ls hP hD hS hl => lv_pop cx.1 cx.2.1 hd hx (k H locs ls hP hD hS hl)
theorem z_ldc (cx : zC p s m args meth c cc own nL A H0 g ret) {index : Nat} {v : Int32} (hd : decode cc pc = .ok (.ldc index, 2)) (pc2 : Nat) (hp : pc + 2 = pc2) (hc : Cond.constant own index v ∈ zT) (k : V p l e R s m args below meth c A H0 g nL Q w nc ns lv pc2 (.int v :: st)) : V p l e R s m args below meth c A H0 g nL Q w nc ns lv pc (st) := by
  subst hp
  exact fun H locs ls hP hD hS hl => lv_ldc cx.1 cx.2.1 cx.2.2.2.2.1 (cx.2.2.2.1 _ hc) hd (k H locs ls hP hD hS hl)
theorem z_ldc_w (cx : zC p s m args meth c cc own nL A H0 g ret) {index : Nat} {v : Int32} (hd : decode cc pc = .ok (.ldc_w index, 3)) (pc2 : Nat) (hp : pc + 3 = pc2) (hc : Cond.constant own index v ∈ zT) (k : V p l e R s m args below meth c A H0 g nL Q w nc ns lv pc2 (.int v :: st)) : V p l e R s m args below meth c A H0 g nL Q w nc ns lv pc (st) := by
  subst hp
  exact fun H locs ls hP hD hS hl => lv_ldcw cx.1 cx.2.1 cx.2.2.2.2.1 (cx.2.2.2.1 _ hc) hd (k H locs ls hP hD hS hl)
theorem z_ldc2_w (cx : zC p s m args meth c cc own nL A H0 g ret) {index : Nat} {v : Int64} (hd : decode cc pc = .ok (.ldc2_w index, 3)) (pc2 : Nat) (hp : pc + 3 = pc2) (hc : Cond.constantLong own index v ∈ zT) (k : V p l e R s m args below meth c A H0 g nL Q w nc ns lv pc2 (.long v :: st)) : V p l e R s m args below meth c A H0 g nL Q w nc ns lv pc (st) := by
  subst hp
  exact fun H locs ls hP hD hS hl => lv_ldc2 cx.1 cx.2.1 cx.2.2.2.2.1 (cx.2.2.2.1 _ hc) hd (k H locs ls hP hD hS hl)
theorem z_goto (cx : zC p s m args meth c cc own nL A H0 g ret) {off : Int} (hd : decode cc pc = .ok (.goto off, 3)) (pc2 : Nat) (ht : (pc : Int) + off = (pc2 : Int)) (k : V p l e R s m args below meth c A H0 g nL Q w nc ns lv pc2 (st)) : V p l e R s m args below meth c A H0 g nL Q w nc ns lv pc (st) :=
  fun H locs ls hP hD hS hl => lv_goto cx.1 cx.2.1 hd ht (k H locs ls hP hD hS hl)
theorem z_icmp_eq (cx : zC p s m args meth c cc own nL A H0 g ret) {off : Int} {x y : Int32} (hd : decode cc pc = .ok (.if_icmp .eq off, 3)) (pc2 : Nat) (hp : pc + 3 = pc2) (tgt : Nat) (ht : (pc : Int) + off = (tgt : Int)) (kt : x = y → V p l e R s m args below meth c A H0 g nL Q w nc ns lv tgt (st)) (kf : ¬ x = y → V p l e R s m args below meth c A H0 g nL Q w nc ns lv pc2 (st)) : V p l e R s m args below meth c A H0 g nL Q w nc ns lv pc (.int y :: .int x :: st) := by
  subst hp
  exact fun H locs ls hP hD hS hl => lv_icmp_eq cx.1 cx.2.1 hd ht (fun q => kt q H locs ls hP hD hS hl) (fun q => kf q H locs ls hP hD hS hl)
theorem z_icmp_ne (cx : zC p s m args meth c cc own nL A H0 g ret) {off : Int} {x y : Int32} (hd : decode cc pc = .ok (.if_icmp .ne off, 3)) (pc2 : Nat) (hp : pc + 3 = pc2) (tgt : Nat) (ht : (pc : Int) + off = (tgt : Int)) (kt : ¬ x = y → V p l e R s m args below meth c A H0 g nL Q w nc ns lv tgt (st)) (kf : x = y → V p l e R s m args below meth c A H0 g nL Q w nc ns lv pc2 (st)) : V p l e R s m args below meth c A H0 g nL Q w nc ns lv pc (.int y :: .int x :: st) := by
  subst hp
  exact fun H locs ls hP hD hS hl => lv_icmp_ne cx.1 cx.2.1 hd ht (fun q => kt q H locs ls hP hD hS hl) (fun q => kf q H locs ls hP hD hS hl)
theorem z_icmp_lt (cx : zC p s m args meth c cc own nL A H0 g ret) {off : Int} {x y : Int32} (hd : decode cc pc = .ok (.if_icmp .lt off, 3)) (pc2 : Nat) (hp : pc + 3 = pc2) (tgt : Nat) (ht : (pc : Int) + off = (tgt : Int)) (kt : x < y → V p l e R s m args below meth c A H0 g nL Q w nc ns lv tgt (st)) (kf : ¬ x < y → V p l e R s m args below meth c A H0 g nL Q w nc ns lv pc2 (st)) : V p l e R s m args below meth c A H0 g nL Q w nc ns lv pc (.int y :: .int x :: st) := by
  subst hp
  exact fun H locs ls hP hD hS hl => lv_icmp_lt cx.1 cx.2.1 hd ht (fun q => kt q H locs ls hP hD hS hl) (fun q => kf q H locs ls hP hD hS hl)
theorem z_icmp_ge (cx : zC p s m args meth c cc own nL A H0 g ret) {off : Int} {x y : Int32} (hd : decode cc pc = .ok (.if_icmp .ge off, 3)) (pc2 : Nat) (hp : pc + 3 = pc2) (tgt : Nat) (ht : (pc : Int) + off = (tgt : Int)) (kt : y ≤ x → V p l e R s m args below meth c A H0 g nL Q w nc ns lv tgt (st)) (kf : ¬ y ≤ x → V p l e R s m args below meth c A H0 g nL Q w nc ns lv pc2 (st)) : V p l e R s m args below meth c A H0 g nL Q w nc ns lv pc (.int y :: .int x :: st) := by
  subst hp
  exact fun H locs ls hP hD hS hl => lv_icmp_ge cx.1 cx.2.1 hd ht (fun q => kt q H locs ls hP hD hS hl) (fun q => kf q H locs ls hP hD hS hl)
theorem z_icmp_gt (cx : zC p s m args meth c cc own nL A H0 g ret) {off : Int} {x y : Int32} (hd : decode cc pc = .ok (.if_icmp .gt off, 3)) (pc2 : Nat) (hp : pc + 3 = pc2) (tgt : Nat) (ht : (pc : Int) + off = (tgt : Int)) (kt : y < x → V p l e R s m args below meth c A H0 g nL Q w nc ns lv tgt (st)) (kf : ¬ y < x → V p l e R s m args below meth c A H0 g nL Q w nc ns lv pc2 (st)) : V p l e R s m args below meth c A H0 g nL Q w nc ns lv pc (.int y :: .int x :: st) := by
  subst hp
  exact fun H locs ls hP hD hS hl => lv_icmp_gt cx.1 cx.2.1 hd ht (fun q => kt q H locs ls hP hD hS hl) (fun q => kf q H locs ls hP hD hS hl)
theorem z_icmp_le (cx : zC p s m args meth c cc own nL A H0 g ret) {off : Int} {x y : Int32} (hd : decode cc pc = .ok (.if_icmp .le off, 3)) (pc2 : Nat) (hp : pc + 3 = pc2) (tgt : Nat) (ht : (pc : Int) + off = (tgt : Int)) (kt : x ≤ y → V p l e R s m args below meth c A H0 g nL Q w nc ns lv tgt (st)) (kf : ¬ x ≤ y → V p l e R s m args below meth c A H0 g nL Q w nc ns lv pc2 (st)) : V p l e R s m args below meth c A H0 g nL Q w nc ns lv pc (.int y :: .int x :: st) := by
  subst hp
  exact fun H locs ls hP hD hS hl => lv_icmp_le cx.1 cx.2.1 hd ht (fun q => kt q H locs ls hP hD hS hl) (fun q => kf q H locs ls hP hD hS hl)
theorem z_if_eq (cx : zC p s m args meth c cc own nL A H0 g ret) {off : Int} {x : Int32} (hd : decode cc pc = .ok (.ifCond .eq off, 3)) (pc2 : Nat) (hp : pc + 3 = pc2) (tgt : Nat) (ht : (pc : Int) + off = (tgt : Int)) (kt : x = 0 → V p l e R s m args below meth c A H0 g nL Q w nc ns lv tgt (st)) (kf : ¬ x = 0 → V p l e R s m args below meth c A H0 g nL Q w nc ns lv pc2 (st)) : V p l e R s m args below meth c A H0 g nL Q w nc ns lv pc (.int x :: st) := by
  subst hp
  exact fun H locs ls hP hD hS hl => lv_if_eq cx.1 cx.2.1 hd ht (fun q => kt q H locs ls hP hD hS hl) (fun q => kf q H locs ls hP hD hS hl)
theorem z_if_ne (cx : zC p s m args meth c cc own nL A H0 g ret) {off : Int} {x : Int32} (hd : decode cc pc = .ok (.ifCond .ne off, 3)) (pc2 : Nat) (hp : pc + 3 = pc2) (tgt : Nat) (ht : (pc : Int) + off = (tgt : Int)) (kt : ¬ x = 0 → V p l e R s m args below meth c A H0 g nL Q w nc ns lv tgt (st)) (kf : x = 0 → V p l e R s m args below meth c A H0 g nL Q w nc ns lv pc2 (st)) : V p l e R s m args below meth c A H0 g nL Q w nc ns lv pc (.int x :: st) := by
  subst hp
  exact fun H locs ls hP hD hS hl => lv_if_ne cx.1 cx.2.1 hd ht (fun q => kt q H locs ls hP hD hS hl) (fun q => kf q H locs ls hP hD hS hl)
theorem z_if_lt (cx : zC p s m args meth c cc own nL A H0 g ret) {off : Int} {x : Int32} (hd : decode cc pc = .ok (.ifCond .lt off, 3)) (pc2 : Nat) (hp : pc + 3 = pc2) (tgt : Nat) (ht : (pc : Int) + off = (tgt : Int)) (kt : x < 0 → V p l e R s m args below meth c A H0 g nL Q w nc ns lv tgt (st)) (kf : ¬ x < 0 → V p l e R s m args below meth c A H0 g nL Q w nc ns lv pc2 (st)) : V p l e R s m args below meth c A H0 g nL Q w nc ns lv pc (.int x :: st) := by
  subst hp
  exact fun H locs ls hP hD hS hl => lv_if_lt cx.1 cx.2.1 hd ht (fun q => kt q H locs ls hP hD hS hl) (fun q => kf q H locs ls hP hD hS hl)
theorem z_if_ge (cx : zC p s m args meth c cc own nL A H0 g ret) {off : Int} {x : Int32} (hd : decode cc pc = .ok (.ifCond .ge off, 3)) (pc2 : Nat) (hp : pc + 3 = pc2) (tgt : Nat) (ht : (pc : Int) + off = (tgt : Int)) (kt : 0 ≤ x → V p l e R s m args below meth c A H0 g nL Q w nc ns lv tgt (st)) (kf : ¬ 0 ≤ x → V p l e R s m args below meth c A H0 g nL Q w nc ns lv pc2 (st)) : V p l e R s m args below meth c A H0 g nL Q w nc ns lv pc (.int x :: st) := by
  subst hp
  exact fun H locs ls hP hD hS hl => lv_if_ge cx.1 cx.2.1 hd ht (fun q => kt q H locs ls hP hD hS hl) (fun q => kf q H locs ls hP hD hS hl)
theorem z_if_gt (cx : zC p s m args meth c cc own nL A H0 g ret) {off : Int} {x : Int32} (hd : decode cc pc = .ok (.ifCond .gt off, 3)) (pc2 : Nat) (hp : pc + 3 = pc2) (tgt : Nat) (ht : (pc : Int) + off = (tgt : Int)) (kt : 0 < x → V p l e R s m args below meth c A H0 g nL Q w nc ns lv tgt (st)) (kf : ¬ 0 < x → V p l e R s m args below meth c A H0 g nL Q w nc ns lv pc2 (st)) : V p l e R s m args below meth c A H0 g nL Q w nc ns lv pc (.int x :: st) := by
  subst hp
  exact fun H locs ls hP hD hS hl => lv_if_gt cx.1 cx.2.1 hd ht (fun q => kt q H locs ls hP hD hS hl) (fun q => kf q H locs ls hP hD hS hl)
theorem z_if_le (cx : zC p s m args meth c cc own nL A H0 g ret) {off : Int} {x : Int32} (hd : decode cc pc = .ok (.ifCond .le off, 3)) (pc2 : Nat) (hp : pc + 3 = pc2) (tgt : Nat) (ht : (pc : Int) + off = (tgt : Int)) (kt : x ≤ 0 → V p l e R s m args below meth c A H0 g nL Q w nc ns lv tgt (st)) (kf : ¬ x ≤ 0 → V p l e R s m args below meth c A H0 g nL Q w nc ns lv pc2 (st)) : V p l e R s m args below meth c A H0 g nL Q w nc ns lv pc (.int x :: st) := by
  subst hp
  exact fun H locs ls hP hD hS hl => lv_if_le cx.1 cx.2.1 hd ht (fun q => kt q H locs ls hP hD hS hl) (fun q => kf q H locs ls hP hD hS hl)
theorem z_swIn (cx : zC p s m args meth c cc own nL A H0 g ret) {dflt lo hi : Int} {offs : Array Int} {len : Nat} {x : Int32} {off : Int} (hd : decode cc pc = .ok (.tableswitch dflt lo hi offs, len)) (v : Int32) (hx : x = v) (tgt : Nat) (h1 : ¬ v.toInt < lo) (h2 : ¬ hi < v.toInt) (ho : offs[(v.toInt - lo).toNat]? = some off) (ht : (pc : Int) + off = (tgt : Int)) (k : V p l e R s m args below meth c A H0 g nL Q w nc ns lv tgt (st)) : V p l e R s m args below meth c A H0 g nL Q w nc ns lv pc (.int x :: st) := by
  subst hx
  exact fun H locs ls hP hD hS hl => lv_tableIn cx.1 cx.2.1 hd h1 h2 ho ht (k H locs ls hP hD hS hl)
theorem z_swOut (cx : zC p s m args meth c cc own nL A H0 g ret) {dflt lo hi : Int} {offs : Array Int} {len : Nat} {x : Int32} (hd : decode cc pc = .ok (.tableswitch dflt lo hi offs, len)) (h : x.toInt < lo ∨ hi < x.toInt) (tgt : Nat) (ht : (pc : Int) + dflt = (tgt : Int)) (k : V p l e R s m args below meth c A H0 g nL Q w nc ns lv tgt (st)) : V p l e R s m args below meth c A H0 g nL Q w nc ns lv pc (.int x :: st) :=
  fun H locs ls hP hD hS hl => lv_tableOut cx.1 cx.2.1 hd h ht (k H locs ls hP hD hS hl)
theorem z_sub {lv' : List (Nat × Value)} (ks : List Nat) (h : lv_pick lv ks = lv') (k : V p l e R s m args below meth c A H0 g nL Q w nc ns lv' pc (st)) : V p l e R s m args below meth c A H0 g nL Q w nc ns lv pc (st) :=
  fun H locs ls hP hD hS hl => k H locs ls hP hD hS (lv_sub hl ks h)
theorem z_get (cx : zC p s m args meth c cc own nL A H0 g ret) {a ci index N : Nat} {ref C : String} {T : u_T} {fs : List Value} {v : Value} (hd : decode cc pc = .ok (.getfield index, 3)) (pc2 : Nat) (hp : pc + 3 = pc2) {q0 : Nat} (he : w[q0]? = some (a, .inr (ci, fs))) (hc : vwCl[ci]? = some (C, T, N)) (hin : ∀ x ∈ u_ws C T N, x ∈ zT) (k0 : Nat) (hk : k0 < N) (hl : Cond.fieldLink own index ref (T k0).2.1 (T k0).2.2.1 ∈ zT) (hs : (T k0).1 = ref) (hv : fs[k0]? = some v) (k : V p l e R s m args below meth c A H0 g nL Q w nc ns lv pc2 (v :: st)) : V p l e R s m args below meth c A H0 g nL Q w nc ns lv pc (.ref a :: st) := by
  subst hp
  subst hs
  exact fun H locs ls hP hD hS hl2 => va_get cx.1 cx.2.1 cx.2.2.2.1 hin cx.2.2.2.2.1 cx.2.2.2.2.2.1 hP q0 he hc k0 hk (cx.2.2.2.1 _ hl) (fun _ h => h) hv hd (k H locs ls hP hD hS hl2)
theorem z_put (cx : zC p s m args meth c cc own nL A H0 g ret) {a ci index N : Nat} {ref C : String} {T : u_T} {ty0 : Nat → FieldType} {fs : List Value} {v : Value} (hd : decode cc pc = .ok (.putfield index, 3)) (pc2 : Nat) (hp : pc + 3 = pc2) {q0 : Nat} (he : w[q0]? = some (a, .inr (ci, fs))) (hc : vwCl[ci]? = some (C, T, N)) (hin : ∀ x ∈ u_ws C T N, x ∈ zT) (hty : ∀ k, k < N → parseFieldDescriptor (T k).2.2.1 = some (ty0 k)) (hnm : ∀ a, a < N → ∀ b, b < N → a ≠ b → (T a).2.1 ≠ (T b).2.1) (k0 : Nat) (hk : k0 < N) (hl : Cond.fieldLink own index ref (T k0).2.1 (T k0).2.2.1 ∈ zT) (hs : (T k0).1 = ref) (hfin : (T k0).2.2.2 = false) (hn : narrow (ty0 k0) v = v) (hfit : fits (ty0 k0) v = true) (hlen : k0 < fs.length) (hw : w.set q0 (a, .inr (ci, fs.set k0 v)) = w') (k : V p l e R s m args below meth c A H0 g nL Q w' nc ns lv pc2 (st)) : V p l e R s m args below meth c A H0 g nL Q w nc ns lv pc (v :: .ref a :: st) := by
  subst hp
  subst hs
  subst hw
  exact fun H locs ls hP hD hS hl2 => va_put cx.1 cx.2.1 cx.2.2.2.1 hin ty0 hty hnm cx.2.2.2.2.1 cx.2.2.2.2.2.1 hP hD hS q0 he hc k0 hk (cx.2.2.2.1 _ hl) (fun _ h => h) hfin (hty k0 hk) hn hfit hlen hd (fun H locs hP hD hS => k H locs ls hP hD hS hl2)
theorem z_iald (cx : zC p s m args meth c cc own nL A H0 g ret) {a n : Nat} {i : Int32} {x : Int32} {f : Nat → Int32} (hd : decode cc pc = .ok (.iaload, 1)) (pc2 : Nat) (hp : pc + 1 = pc2) {q0 : Nat} (he : w[q0]? = some (a, .inl (g.2.1 0, n, .inl f))) (hi : vp_in i n) (hx : x = f i.toNatClampNeg) (k : V p l e R s m args below meth c A H0 g nL Q w nc ns lv pc2 (.int x :: st)) : V p l e R s m args below meth c A H0 g nL Q w nc ns lv pc (.int i :: .ref a :: st) := by
  subst hp
  subst hx
  exact fun H locs ls hP hD hS hl => va_iald cx.1 cx.2.1 cx.2.2.2.2.2.1 hP q0 0 he rfl hi hd (k H locs ls hP hD hS hl)
theorem z_lald (cx : zC p s m args meth c cc own nL A H0 g ret) {a n : Nat} {i : Int32} {x : Int64} {f : Nat → Int64} (hd : decode cc pc = .ok (.laload, 1)) (pc2 : Nat) (hp : pc + 1 = pc2) {q0 : Nat} (he : w[q0]? = some (a, .inl (g.2.1 1, n, .inr (.inl f)))) (hi : vp_in i n) (hx : x = f i.toNatClampNeg) (k : V p l e R s m args below meth c A H0 g nL Q w nc ns lv pc2 (.long x :: st)) : V p l e R s m args below meth c A H0 g nL Q w nc ns lv pc (.int i :: .ref a :: st) := by
  subst hp
  subst hx
  exact fun H locs ls hP hD hS hl => va_lald cx.1 cx.2.1 cx.2.2.2.2.2.1 hP q0 1 he rfl hi hd (k H locs ls hP hD hS hl)
theorem z_iast (cx : zC p s m args meth c cc own nL A H0 g ret) {a n : Nat} {i : Int32} {x : Int32} {f : Nat → Int32} (hd : decode cc pc = .ok (.iastore, 1)) (pc2 : Nat) (hp : pc + 1 = pc2) {q0 : Nat} (he : w[q0]? = some (a, .inl (g.2.1 0, n, .inl f))) (hi : vp_in i n) (hw : w.set q0 (a, .inl (g.2.1 0, n, .inl (upd f i.toNatClampNeg x))) = w') (k : V p l e R s m args below meth c A H0 g nL Q w' nc ns lv pc2 (st)) : V p l e R s m args below meth c A H0 g nL Q w nc ns lv pc (.int x :: .int i :: .ref a :: st) := by
  subst hp
  subst hw
  exact fun H locs ls hP hD hS hl => va_iast cx.1 cx.2.1 cx.2.2.2.2.2.1 hP hD hS q0 0 he rfl hi hd (fun H locs hP hD hS => k H locs ls hP hD hS hl)
theorem z_last (cx : zC p s m args meth c cc own nL A H0 g ret) {a n : Nat} {i : Int32} {x : Int64} {f : Nat → Int64} (hd : decode cc pc = .ok (.lastore, 1)) (pc2 : Nat) (hp : pc + 1 = pc2) {q0 : Nat} (he : w[q0]? = some (a, .inl (g.2.1 1, n, .inr (.inl f)))) (hi : vp_in i n) (hw : w.set q0 (a, .inl (g.2.1 1, n, .inr (.inl (vp_updL f i.toNatClampNeg x)))) = w') (k : V p l e R s m args below meth c A H0 g nL Q w' nc ns lv pc2 (st)) : V p l e R s m args below meth c A H0 g nL Q w nc ns lv pc (.long x :: .int i :: .ref a :: st) := by
  subst hp
  subst hw
  exact fun H locs ls hP hD hS hl => va_last cx.1 cx.2.1 cx.2.2.2.2.2.1 hP hD hS q0 1 he rfl hi hd (fun H locs hP hD hS => k H locs ls hP hD hS hl)
theorem z_iret {r v : Int32} {w2 : va_W} (cx : zC p s m args meth c cc own nL A s.heap g (some .int)) (hd : decode cc pc = .ok (.ireturn, 1)) (hv : v = r) (hw : w = w2) : V p l e R s m args below meth c A s.heap g nL (MQ below (zQi r g A w2) args s nc ns A) w nc ns lv pc [.int v] := by
  subst hv
  subst hw
  exact fun H locs ls hP hD hS hl => W.iret cx.1 cx.2.1 cx.2.2.2.2.2.2.2.1 (fun t ht hW => ⟨⟨v, (), rfl, rfl, by rw [ht]; exact hP, va_K.moved hW.alike cx.2.2.2.2.2.1, hD⟩, hS.F ht⟩) hS.2.2 hd cx.2.2.2.2.2.2.2.2
theorem z_zret {r v : Int32} {w2 : va_W} (cx : zC p s m args meth c cc own nL A s.heap g (some .boolean)) (hd : decode cc pc = .ok (.ireturn, 1)) (hb : v = 0 ∨ v = 1) (hv : v = r) (hw : w = w2) : V p l e R s m args below meth c A s.heap g nL (MQ below (zQi r g A w2) args s nc ns A) w nc ns lv pc [.int v] := by
  subst hv
  subst hw
  exact fun H locs ls hP hD hS hl => W.zret cx.1 cx.2.1 cx.2.2.2.2.2.2.2.1 (br0 hb) (fun t ht hW => ⟨⟨v, (), rfl, rfl, by rw [ht]; exact hP, va_K.moved hW.alike cx.2.2.2.2.2.1, hD⟩, hS.F ht⟩) hS.2.2 hd cx.2.2.2.2.2.2.2.2
theorem z_lret {r v : Int64} {w2 : va_W} (cx : zC p s m args meth c cc own nL A s.heap g (some .long)) (hd : decode cc pc = .ok (.lreturn, 1)) (hv : v = r) (hw : w = w2) : V p l e R s m args below meth c A s.heap g nL (MQ below (zQl r g A w2) args s nc ns A) w nc ns lv pc [.long v] := by
  subst hv
  subst hw
  exact fun H locs ls hP hD hS hl => W.lret cx.1 cx.2.1 cx.2.2.2.2.2.2.2.1 (fun t ht hW => ⟨⟨v, (), rfl, rfl, by rw [ht]; exact hP, va_K.moved hW.alike cx.2.2.2.2.2.1, hD⟩, hS.F ht⟩) hS.2.2 hd cx.2.2.2.2.2.2.2.2
theorem z_vret {w2 : va_W} (cx : zC p s m args meth c cc own nL A s.heap g none) (hd : decode cc pc = .ok (.return_, 1)) (hw : w = w2) : V p l e R s m args below meth c A s.heap g nL (MQ below (zQv g A w2) args s nc ns A) w nc ns lv pc [] := by
  subst hw
  exact fun H locs ls hP hD hS hl => W.vret cx.1 cx.2.1 cx.2.2.2.2.2.2.2.1 (fun t ht hW => ⟨⟨(), rfl, trivial, by rw [ht]; exact hP, va_K.moved hW.alike cx.2.2.2.2.2.1, hD⟩, hS.F ht⟩) hS.2.2 hd cx.2.2.2.2.2.2.2.2
theorem z_callV_i (cx : zC p s m args meth c cc own nL A H0 g ret) {b : Nat} {C : String} {y : MethodName} {bytes : ByteArray} {maxL index n : Nat} {ty : Option FieldType} {rm : Room} {r : Int32} {As rest : List Value} (hM : zMi l y bytes maxL ty rm g (.ref b :: As) w w' r) (hd : decode cc pc = .ok (.invokevirtual index, 3)) (pc2 : Nat) (hp : pc + 3 = pc2) (hK : zK y bytes maxL ty n) (hlk : Cond.methodLink own index y ∈ zT) (hin : Cond.instanceMethod y ∈ zT) (hse : Cond.selects C y y ∈ zT) (hC : y.cls = C) {q0 ci N : Nat} {T : u_T} {fs : List Value} (he : w[q0]? = some (b, .inr (ci, fs))) (hc : vwCl[ci]? = some (C, T, N)) (hrm : rm.cells = 0 ∧ rm.slots = 0) (hR : rm.frames + 1 ≤ R.frames ∧ 8 + (maxL + 11) + rm.locals ≤ R.locals) (hn : As.length = n) (hst0 : st = As.reverse ++ .ref b :: rest) (hrs : (rest.map fun v => v.category).sum ≤ 8) (hroom : nc + 0 ≤ R.cells ∧ ns + 0 ≤ R.slots) (k : V p l e R s m args below meth c A H0 g nL Q w' nc ns lv pc2 (.int r :: rest)) : V p l e R s m args below meth c A H0 g nL Q w nc ns lv pc (st) := by
  subst hp
  subst hst0
  intro H locs ls hP hD hS hl
  have hF : ∀ q, va_A w H.size q → A q := by
    intro q h
    rcases h with ⟨k9, e9, h⟩ | h
    · exact hD.2 k9 (q, e9) h
    · exact cx.2.2.2.2.2.2.1 q (Nat.le_trans hS.1 h)
  refine va_calli (va_runV (As := As) (rest := rest) ⟨cx.1, cx.2.1, cx.2.2.1, cx.2.2.2.2.1, cx.2.2.2.1⟩ (hM H.size) ⟨callB_of n cx.2.2.2.1 (zU_good hK.1) rfl hrm.1 hrm.2 (cx.2.2.2.1 _ hK.2.1) (cx.2.2.2.1 _ hlk) hK.2.2 hR, cx.2.2.2.1 _ hin, cx.2.2.2.1 _ hse⟩ ⟨zP_blind, va_recv cx.2.2.2.2.2.1 hP hc he, fun U hU hW => ⟨rfl, by rw [hU], by rw [hU]; exact hP, va_K.moved hW.alike cx.2.2.2.2.2.1, hD.weaken (fun _ _ _ _ => trivial)⟩⟩ rfl hn hl.1 rfl (lv_room hrs) hd hroom) hS (fun q _ h => hF q h) hF (fun r2 u t H1 locs1 ht hvm hw hB hz1 hk1 hS1 => by
    subst hw
    obtain ⟨hP1, hK1, hD1⟩ := hB
    rw [ht] at hP1
    exact k H1 locs1 ls hP1 (hD1.weaken (fun _ q _ h => hF q.1 h)) hS1 hl)
theorem z_callS_i (cx : zC p s m args meth c cc own nL A H0 g ret)  {y : MethodName} {bytes : ByteArray} {maxL index n : Nat} {ty : Option FieldType} {rm : Room} {r : Int32} {As rest : List Value} (hM : zMi l y bytes maxL ty rm g (As) w w' r) (hd : decode cc pc = .ok (.invokestatic index, 3)) (pc2 : Nat) (hp : pc + 3 = pc2) (hK : zK y bytes maxL ty n) (hlk : Cond.methodLink own index y ∈ zT) (hst : Cond.static y ∈ zT) (hrm : rm.cells = 0 ∧ rm.slots = 0) (hR : rm.frames + 1 ≤ R.frames ∧ 8 + (maxL + 11) + rm.locals ≤ R.locals) (hn : As.length = n) (hst0 : st = As.reverse ++ rest) (hrs : (rest.map fun v => v.category).sum ≤ 8) (hroom : nc + 0 ≤ R.cells ∧ ns + 0 ≤ R.slots) (k : V p l e R s m args below meth c A H0 g nL Q w' nc ns lv pc2 (.int r :: rest)) : V p l e R s m args below meth c A H0 g nL Q w nc ns lv pc (st) := by
  subst hp
  subst hst0
  intro H locs ls hP hD hS hl
  have hF : ∀ q, va_A w H.size q → A q := by
    intro q h
    rcases h with ⟨k9, e9, h⟩ | h
    · exact hD.2 k9 (q, e9) h
    · exact cx.2.2.2.2.2.2.1 q (Nat.le_trans hS.1 h)
  refine va_calli (va_runS (As := As) (rest := rest) ⟨cx.1, cx.2.1, cx.2.2.1, cx.2.2.2.2.1, cx.2.2.2.1⟩ (hM H.size) ⟨callB_of n cx.2.2.2.1 (zU_good hK.1) rfl hrm.1 hrm.2 (cx.2.2.2.1 _ hK.2.1) (cx.2.2.2.1 _ hlk) hK.2.2 hR, cx.2.2.2.1 _ hst⟩ ⟨zP_blind, fun U hU hW => ⟨rfl, by rw [hU], by rw [hU]; exact hP, va_K.moved hW.alike cx.2.2.2.2.2.1, hD.weaken (fun _ _ _ _ => trivial)⟩⟩ rfl hn hl.1 rfl (lv_room hrs) hd hroom) hS (fun q _ h => hF q h) hF (fun r2 u t H1 locs1 ht hvm hw hB hz1 hk1 hS1 => by
    subst hw
    obtain ⟨hP1, hK1, hD1⟩ := hB
    rw [ht] at hP1
    exact k H1 locs1 ls hP1 (hD1.weaken (fun _ q _ h => hF q.1 h)) hS1 hl)
theorem z_callV_l (cx : zC p s m args meth c cc own nL A H0 g ret) {b : Nat} {C : String} {y : MethodName} {bytes : ByteArray} {maxL index n : Nat} {ty : Option FieldType} {rm : Room} {r : Int64} {As rest : List Value} (hM : zMl l y bytes maxL ty rm g (.ref b :: As) w w' r) (hd : decode cc pc = .ok (.invokevirtual index, 3)) (pc2 : Nat) (hp : pc + 3 = pc2) (hK : zK y bytes maxL ty n) (hlk : Cond.methodLink own index y ∈ zT) (hin : Cond.instanceMethod y ∈ zT) (hse : Cond.selects C y y ∈ zT) (hC : y.cls = C) {q0 ci N : Nat} {T : u_T} {fs : List Value} (he : w[q0]? = some (b, .inr (ci, fs))) (hc : vwCl[ci]? = some (C, T, N)) (hrm : rm.cells = 0 ∧ rm.slots = 0) (hR : rm.frames + 1 ≤ R.frames ∧ 8 + (maxL + 11) + rm.locals ≤ R.locals) (hn : As.length = n) (hst0 : st = As.reverse ++ .ref b :: rest) (hrs : (rest.map fun v => v.category).sum ≤ 8) (hroom : nc + 0 ≤ R.cells ∧ ns + 0 ≤ R.slots) (k : V p l e R s m args below meth c A H0 g nL Q w' nc ns lv pc2 (.long r :: rest)) : V p l e R s m args below meth c A H0 g nL Q w nc ns lv pc (st) := by
  subst hp
  subst hst0
  intro H locs ls hP hD hS hl
  have hF : ∀ q, va_A w H.size q → A q := by
    intro q h
    rcases h with ⟨k9, e9, h⟩ | h
    · exact hD.2 k9 (q, e9) h
    · exact cx.2.2.2.2.2.2.1 q (Nat.le_trans hS.1 h)
  refine va_calll (va_runV (As := As) (rest := rest) ⟨cx.1, cx.2.1, cx.2.2.1, cx.2.2.2.2.1, cx.2.2.2.1⟩ (hM H.size) ⟨callB_of n cx.2.2.2.1 (zU_good hK.1) rfl hrm.1 hrm.2 (cx.2.2.2.1 _ hK.2.1) (cx.2.2.2.1 _ hlk) hK.2.2 hR, cx.2.2.2.1 _ hin, cx.2.2.2.1 _ hse⟩ ⟨zP_blind, va_recv cx.2.2.2.2.2.1 hP hc he, fun U hU hW => ⟨rfl, by rw [hU], by rw [hU]; exact hP, va_K.moved hW.alike cx.2.2.2.2.2.1, hD.weaken (fun _ _ _ _ => trivial)⟩⟩ rfl hn hl.1 rfl (lv_room hrs) hd hroom) hS (fun q _ h => hF q h) hF (fun r2 u t H1 locs1 ht hvm hw hB hz1 hk1 hS1 => by
    subst hw
    obtain ⟨hP1, hK1, hD1⟩ := hB
    rw [ht] at hP1
    exact k H1 locs1 ls hP1 (hD1.weaken (fun _ q _ h => hF q.1 h)) hS1 hl)
theorem z_callS_l (cx : zC p s m args meth c cc own nL A H0 g ret)  {y : MethodName} {bytes : ByteArray} {maxL index n : Nat} {ty : Option FieldType} {rm : Room} {r : Int64} {As rest : List Value} (hM : zMl l y bytes maxL ty rm g (As) w w' r) (hd : decode cc pc = .ok (.invokestatic index, 3)) (pc2 : Nat) (hp : pc + 3 = pc2) (hK : zK y bytes maxL ty n) (hlk : Cond.methodLink own index y ∈ zT) (hst : Cond.static y ∈ zT) (hrm : rm.cells = 0 ∧ rm.slots = 0) (hR : rm.frames + 1 ≤ R.frames ∧ 8 + (maxL + 11) + rm.locals ≤ R.locals) (hn : As.length = n) (hst0 : st = As.reverse ++ rest) (hrs : (rest.map fun v => v.category).sum ≤ 8) (hroom : nc + 0 ≤ R.cells ∧ ns + 0 ≤ R.slots) (k : V p l e R s m args below meth c A H0 g nL Q w' nc ns lv pc2 (.long r :: rest)) : V p l e R s m args below meth c A H0 g nL Q w nc ns lv pc (st) := by
  subst hp
  subst hst0
  intro H locs ls hP hD hS hl
  have hF : ∀ q, va_A w H.size q → A q := by
    intro q h
    rcases h with ⟨k9, e9, h⟩ | h
    · exact hD.2 k9 (q, e9) h
    · exact cx.2.2.2.2.2.2.1 q (Nat.le_trans hS.1 h)
  refine va_calll (va_runS (As := As) (rest := rest) ⟨cx.1, cx.2.1, cx.2.2.1, cx.2.2.2.2.1, cx.2.2.2.1⟩ (hM H.size) ⟨callB_of n cx.2.2.2.1 (zU_good hK.1) rfl hrm.1 hrm.2 (cx.2.2.2.1 _ hK.2.1) (cx.2.2.2.1 _ hlk) hK.2.2 hR, cx.2.2.2.1 _ hst⟩ ⟨zP_blind, fun U hU hW => ⟨rfl, by rw [hU], by rw [hU]; exact hP, va_K.moved hW.alike cx.2.2.2.2.2.1, hD.weaken (fun _ _ _ _ => trivial)⟩⟩ rfl hn hl.1 rfl (lv_room hrs) hd hroom) hS (fun q _ h => hF q h) hF (fun r2 u t H1 locs1 ht hvm hw hB hz1 hk1 hS1 => by
    subst hw
    obtain ⟨hP1, hK1, hD1⟩ := hB
    rw [ht] at hP1
    exact k H1 locs1 ls hP1 (hD1.weaken (fun _ q _ h => hF q.1 h)) hS1 hl)
theorem z_callV_v (cx : zC p s m args meth c cc own nL A H0 g ret) {b : Nat} {C : String} {y : MethodName} {bytes : ByteArray} {maxL index n : Nat} {ty : Option FieldType} {rm : Room}  {As rest : List Value} (hM : zMv l y bytes maxL ty rm g (.ref b :: As) w w') (hd : decode cc pc = .ok (.invokevirtual index, 3)) (pc2 : Nat) (hp : pc + 3 = pc2) (hK : zK y bytes maxL ty n) (hlk : Cond.methodLink own index y ∈ zT) (hin : Cond.instanceMethod y ∈ zT) (hse : Cond.selects C y y ∈ zT) (hC : y.cls = C) {q0 ci N : Nat} {T : u_T} {fs : List Value} (he : w[q0]? = some (b, .inr (ci, fs))) (hc : vwCl[ci]? = some (C, T, N)) (hrm : rm.cells = 0 ∧ rm.slots = 0) (hR : rm.frames + 1 ≤ R.frames ∧ 8 + (maxL + 11) + rm.locals ≤ R.locals) (hn : As.length = n) (hst0 : st = As.reverse ++ .ref b :: rest) (hrs : (rest.map fun v => v.category).sum ≤ 8) (hroom : nc + 0 ≤ R.cells ∧ ns + 0 ≤ R.slots) (k : V p l e R s m args below meth c A H0 g nL Q w' nc ns lv pc2 (rest)) : V p l e R s m args below meth c A H0 g nL Q w nc ns lv pc (st) := by
  subst hp
  subst hst0
  intro H locs ls hP hD hS hl
  have hF : ∀ q, va_A w H.size q → A q := by
    intro q h
    rcases h with ⟨k9, e9, h⟩ | h
    · exact hD.2 k9 (q, e9) h
    · exact cx.2.2.2.2.2.2.1 q (Nat.le_trans hS.1 h)
  refine va_callv (va_runV (As := As) (rest := rest) ⟨cx.1, cx.2.1, cx.2.2.1, cx.2.2.2.2.1, cx.2.2.2.1⟩ (hM H.size) ⟨callB_of n cx.2.2.2.1 (zU_good hK.1) rfl hrm.1 hrm.2 (cx.2.2.2.1 _ hK.2.1) (cx.2.2.2.1 _ hlk) hK.2.2 hR, cx.2.2.2.1 _ hin, cx.2.2.2.1 _ hse⟩ ⟨zP_blind, va_recv cx.2.2.2.2.2.1 hP hc he, fun U hU hW => ⟨rfl, by rw [hU], by rw [hU]; exact hP, va_K.moved hW.alike cx.2.2.2.2.2.1, hD.weaken (fun _ _ _ _ => trivial)⟩⟩ rfl hn hl.1 rfl (lv_room hrs) hd hroom) hS (fun q _ h => hF q h) hF (fun u t H1 locs1 ht hvm hw hB hz1 hk1 hS1 => by
    obtain ⟨hP1, hK1, hD1⟩ := hB
    rw [ht] at hP1
    exact k H1 locs1 ls hP1 (hD1.weaken (fun _ q _ h => hF q.1 h)) hS1 hl)
theorem z_callS_v (cx : zC p s m args meth c cc own nL A H0 g ret)  {y : MethodName} {bytes : ByteArray} {maxL index n : Nat} {ty : Option FieldType} {rm : Room}  {As rest : List Value} (hM : zMv l y bytes maxL ty rm g (As) w w') (hd : decode cc pc = .ok (.invokestatic index, 3)) (pc2 : Nat) (hp : pc + 3 = pc2) (hK : zK y bytes maxL ty n) (hlk : Cond.methodLink own index y ∈ zT) (hst : Cond.static y ∈ zT) (hrm : rm.cells = 0 ∧ rm.slots = 0) (hR : rm.frames + 1 ≤ R.frames ∧ 8 + (maxL + 11) + rm.locals ≤ R.locals) (hn : As.length = n) (hst0 : st = As.reverse ++ rest) (hrs : (rest.map fun v => v.category).sum ≤ 8) (hroom : nc + 0 ≤ R.cells ∧ ns + 0 ≤ R.slots) (k : V p l e R s m args below meth c A H0 g nL Q w' nc ns lv pc2 (rest)) : V p l e R s m args below meth c A H0 g nL Q w nc ns lv pc (st) := by
  subst hp
  subst hst0
  intro H locs ls hP hD hS hl
  have hF : ∀ q, va_A w H.size q → A q := by
    intro q h
    rcases h with ⟨k9, e9, h⟩ | h
    · exact hD.2 k9 (q, e9) h
    · exact cx.2.2.2.2.2.2.1 q (Nat.le_trans hS.1 h)
  refine va_callv (va_runS (As := As) (rest := rest) ⟨cx.1, cx.2.1, cx.2.2.1, cx.2.2.2.2.1, cx.2.2.2.1⟩ (hM H.size) ⟨callB_of n cx.2.2.2.1 (zU_good hK.1) rfl hrm.1 hrm.2 (cx.2.2.2.1 _ hK.2.1) (cx.2.2.2.1 _ hlk) hK.2.2 hR, cx.2.2.2.1 _ hst⟩ ⟨zP_blind, fun U hU hW => ⟨rfl, by rw [hU], by rw [hU]; exact hP, va_K.moved hW.alike cx.2.2.2.2.2.1, hD.weaken (fun _ _ _ _ => trivial)⟩⟩ rfl hn hl.1 rfl (lv_room hrs) hd hroom) hS (fun q _ h => hF q h) hF (fun u t H1 locs1 ht hvm hw hB hz1 hk1 hS1 => by
    obtain ⟨hP1, hK1, hD1⟩ := hB
    rw [ht] at hP1
    exact k H1 locs1 ls hP1 (hD1.weaken (fun _ q _ h => hF q.1 h)) hS1 hl)
theorem zMi_of {y : MethodName} {rm : Room} {r : Int32} {as : List Value} (ho : y.cls = own) (hy : plainName y.cls = true) (hlen : (lg_sl as).length ≤ nL) (hlv : lv_args 0 as = lv) (hcr : rm.cells = 0 ∧ rm.slots = 0)
    (body : ∀ (p : Program) (e : Env) (s : State) (m : MethodId) (args : Array Value) (below : List Frame) (meth : Method) (c : Code) (A : Nat → Prop), zC p s m args meth c cc own nL A s.heap g ret → V p l e rm s m args below meth c A s.heap g nL (MQ below (zQi r g A w') args s 0 0 A) w 0 0 lv 0 []) : zMi l y cc nL ret rm g as w w' r := by
  intro sz
  subst ho
  refine Met.ofW (cc := cc) (maxL := nL) (ret := ret) hy rfl ?_
  intro p e s m args below meth c s₁ B hml hv
  obtain ⟨rfl, hsz, hP, hK, hD0⟩ := hv
  subst hsz
  have hts := atoms_spec (ws := zU y cc nL ret) B.pre
  rw [lg_entry_eq]
  exact body p e s m _ below meth c (va_A w s.heap.size) ⟨B.exec, B.bytes, hml, fun x hx => hts x (List.mem_cons_of_mem _ hx), findClass_of_methodNamed B.named, hK, fun q h => Or.inr h, B.returns, B.notSynchronized⟩ s.heap [] _ hP hD0.self va_S.rf (hlv ▸ lv_entry as hlen)
theorem zMl_of {y : MethodName} {rm : Room} {r : Int64} {as : List Value} (ho : y.cls = own) (hy : plainName y.cls = true) (hlen : (lg_sl as).length ≤ nL) (hlv : lv_args 0 as = lv) (hcr : rm.cells = 0 ∧ rm.slots = 0)
    (body : ∀ (p : Program) (e : Env) (s : State) (m : MethodId) (args : Array Value) (below : List Frame) (meth : Method) (c : Code) (A : Nat → Prop), zC p s m args meth c cc own nL A s.heap g ret → V p l e rm s m args below meth c A s.heap g nL (MQ below (zQl r g A w') args s 0 0 A) w 0 0 lv 0 []) : zMl l y cc nL ret rm g as w w' r := by
  intro sz
  subst ho
  refine Met.ofW (cc := cc) (maxL := nL) (ret := ret) hy rfl ?_
  intro p e s m args below meth c s₁ B hml hv
  obtain ⟨rfl, hsz, hP, hK, hD0⟩ := hv
  subst hsz
  have hts := atoms_spec (ws := zU y cc nL ret) B.pre
  rw [lg_entry_eq]
  exact body p e s m _ below meth c (va_A w s.heap.size) ⟨B.exec, B.bytes, hml, fun x hx => hts x (List.mem_cons_of_mem _ hx), findClass_of_methodNamed B.named, hK, fun q h => Or.inr h, B.returns, B.notSynchronized⟩ s.heap [] _ hP hD0.self va_S.rf (hlv ▸ lv_entry as hlen)
theorem zMv_of {y : MethodName} {rm : Room}  {as : List Value} (ho : y.cls = own) (hy : plainName y.cls = true) (hlen : (lg_sl as).length ≤ nL) (hlv : lv_args 0 as = lv) (hcr : rm.cells = 0 ∧ rm.slots = 0)
    (body : ∀ (p : Program) (e : Env) (s : State) (m : MethodId) (args : Array Value) (below : List Frame) (meth : Method) (c : Code) (A : Nat → Prop), zC p s m args meth c cc own nL A s.heap g ret → V p l e rm s m args below meth c A s.heap g nL (MQ below (zQv g A w') args s 0 0 A) w 0 0 lv 0 []) : zMv l y cc nL ret rm g as w w' := by
  intro sz
  subst ho
  refine Met.ofW (cc := cc) (maxL := nL) (ret := ret) hy rfl ?_
  intro p e s m args below meth c s₁ B hml hv
  obtain ⟨rfl, hsz, hP, hK, hD0⟩ := hv
  subst hsz
  have hts := atoms_spec (ws := zU y cc nL ret) B.pre
  rw [lg_entry_eq]
  exact body p e s m _ below meth c (va_A w s.heap.size) ⟨B.exec, B.bytes, hml, fun x hx => hts x (List.mem_cons_of_mem _ hx), findClass_of_methodNamed B.named, hK, fun q h => Or.inr h, B.returns, B.notSynchronized⟩ s.heap [] _ hP hD0.self va_S.rf (hlv ▸ lv_entry as hlen)
theorem z_mmax (cx : zC p s m args meth c cc own nL A H0 g ret) {index : Nat} {x y : Int32} (hd : decode cc pc = .ok (.invokestatic index, 3)) (pc2 : Nat) (hp : pc + 3 = pc2) (hlk : Cond.methodLink own index Lib.Math.max.name ∈ zT) (hst : Cond.static Lib.Math.max.name ∈ zT) (hini : Cond.initialized "java/lang/Math" ∈ zT) (hco : Cond.code Lib.Math.max.name Lib.Math.max.code 2 (some .int) ∈ zT) (hf : 1 ≤ R.frames) (hlo : (st.map fun v => v.category).sum + 13 ≤ R.locals) (hc : nc ≤ R.cells) (hs : ns ≤ R.slots) (k : V p l e R s m args below meth c A H0 g nL Q w nc ns lv pc2 (.int (if x < y then y else x) :: st)) : V p l e R s m args below meth c A H0 g nL Q w nc ns lv pc (.int y :: .int x :: st) := by
  subst hp
  exact fun H locs ls hP hD hS hl => va_mmax cx.1 cx.2.1 (cx.2.2.1.trans hl.1.symm) cx.2.2.2.2.1 (cx.2.2.2.1 _ hlk) (cx.2.2.2.1 _ hst) (cx.2.2.2.1 _ hini) (cx.2.2.2.1 _ hco) hf hlo hc hs hd (k H locs ls hP hD hS hl)
theorem z_mmin (cx : zC p s m args meth c cc own nL A H0 g ret) {index : Nat} {x y : Int32} (hd : decode cc pc = .ok (.invokestatic index, 3)) (pc2 : Nat) (hp : pc + 3 = pc2) (hlk : Cond.methodLink own index Lib.Math.min.name ∈ zT) (hst : Cond.static Lib.Math.min.name ∈ zT) (hini : Cond.initialized "java/lang/Math" ∈ zT) (hco : Cond.code Lib.Math.min.name Lib.Math.min.code 2 (some .int) ∈ zT) (hf : 1 ≤ R.frames) (hlo : (st.map fun v => v.category).sum + 13 ≤ R.locals) (hc : nc ≤ R.cells) (hs : ns ≤ R.slots) (k : V p l e R s m args below meth c A H0 g nL Q w nc ns lv pc2 (.int (if y < x then y else x) :: st)) : V p l e R s m args below meth c A H0 g nL Q w nc ns lv pc (.int y :: .int x :: st) := by
  subst hp
  exact fun H locs ls hP hD hS hl => va_mmin cx.1 cx.2.1 (cx.2.2.1.trans hl.1.symm) cx.2.2.2.2.1 (cx.2.2.2.1 _ hlk) (cx.2.2.2.1 _ hst) (cx.2.2.2.1 _ hini) (cx.2.2.2.1 _ hco) hf hlo hc hs hd (k H locs ls hP hD hS hl)
theorem z_copy (cx : zC p s m args meth c cc own nL A H0 g ret) {a a0 n0 n1 index : Nat} {f f1 : Nat → Int32} {sp dp n : Int32} (hd : decode cc pc = .ok (.invokestatic index, 3)) (pc2 : Nat) (hp : pc + 3 = pc2) (hlk : Cond.methodLink own index arraycopyName ∈ zT) (hna : Cond.native arraycopyName ∈ zT) (hst : Cond.static arraycopyName ∈ zT) (hini : Cond.initialized "java/lang/System" ∈ zT) {q0 q1 : Nat} (he0 : w[q0]? = some (a0, .inl (g.2.1 0, n0, .inl f))) (he1 : w[q1]? = some (a, .inl (g.2.1 0, n1, .inl f1))) (hk : (¬ sp < 0 ∧ ¬ dp < 0 ∧ ¬ n < 0) ∧ sp.toNatClampNeg + n.toNatClampNeg ≤ n0 ∧ dp.toNatClampNeg + n.toNatClampNeg ≤ n1) (hf : 1 ≤ R.frames) (hlo : (st.map fun v => v.category).sum + (nativeFrameWords "java/lang/System" "arraycopy" 5 + 11) ≤ R.locals) (hw : w.set q1 (a, .inl (g.2.1 0, n1, .inl (va_cpy f f1 sp.toNatClampNeg dp.toNatClampNeg n.toNatClampNeg))) = w') (k : V p l e R s m args below meth c A H0 g nL Q w' nc ns lv pc2 (st)) : V p l e R s m args below meth c A H0 g nL Q w nc ns lv pc (.int n :: .int dp :: .ref a :: .int sp :: .ref a0 :: st) := by
  subst hp
  subst hw
  exact fun H locs ls hP hD hS hl => va_copyi cx.1 cx.2.1 (cx.2.2.1.trans hl.1.symm) cx.2.2.2.2.1 (cx.2.2.2.1 _ hlk) (cx.2.2.2.1 _ hna) (cx.2.2.2.1 _ hst) (cx.2.2.2.1 _ hini) cx.2.2.2.2.2.1 hP hD hS q0 q1 0 0 he0 he1 rfl rfl rfl hk.1.1 hk.1.2.1 hk.1.2.2 hk.2.1 hk.2.2 (fun _ _ => rfl) hf hlo hd (fun H locs hP hD hS => k H locs ls hP hD hS hl)
end VV
