-- needs: 05y.exc
/-! what stands beside the worlds and never changes: strings, statics, links of nest mates; contracts of methods that make cells -/
abbrev ZS : Type := (Nat → Nat) × (Nat → Nat)
def zLen : List Nat := [5, 4, 7, 6, 5, 8]
def zByt : List (List Int32) := [[112, 111, 105, 110, 116], [108, 105, 110, 101], [102, 111, 114, 101, 115, 116, 115], [112, 111, 105, 110, 116, 32], [108, 105, 110, 101, 32], [102, 111, 114, 101, 115, 116, 115, 32]]
def zFmtD : String := "Ljava/util/function/BiFunction;"
def zNet0 : MethodName := ⟨"ForestPacks$Net", "<init>", "()V"⟩
def zTape0 : MethodName := ⟨"ForestPacks$Tape", "<init>", "()V"⟩
/-- of the state alone -/
def zE1 (k : ZS) (U : State) : Prop :=
  va_Nw (.methodLinkNest "ForestPacks" 9 zNet0 "ForestPacks") U ∧ va_Nw (.methodLinkNest "ForestPacks" 18 zTape0 "ForestPacks") U ∧ va_Nw (.methodLinkNest "ForestPacks$Reader" 11 zNet0 "ForestPacks") U ∧ va_Nw (.methodLinkNest "ForestPacks$Acts" 19 zNet0 "ForestPacks") U ∧
  vk_R "ForestPacks$Reader" 22 "point" (k.1 0) U ∧ vk_R "ForestPacks$Reader" 32 "line" (k.1 1) U ∧ vk_R "ForestPacks$Reader" 37 "forests" (k.1 2) U ∧
  vk_R "ForestPacks" 152 "no such line, or nothing such is told of it" (k.1 6) U ∧ vk_R "ForestPacksLaw" 47 "point " (k.1 3) U ∧ (vk_R "ForestPacksLaw" 53 "line " (k.1 4) U ∧ vk_R "ForestPacksLaw" 58 "forests " (k.1 5) U) ∧ va_AO "ForestPacks$Net" U ∧
  va_Nw (.declares ⟨"java/lang/RuntimeException", "<init>", "(Ljava/lang/String;)V"⟩) U ∧ va_Nw (.declares ⟨"java/lang/Exception", "<init>", "(Ljava/lang/String;)V"⟩) U ∧ va_Nw (.declares ⟨"java/lang/Throwable", "<init>", "(Ljava/lang/String;)V"⟩) U ∧ va_Nw (.castable "java/util/NoSuchElementException" "java/util/NoSuchElementException") U
/-- of the state and of cells that stand outside of A -/
def zE2 (k : ZS) (A : Nat → Prop) (U : State) (H : Heap) : Prop :=
  vk_S 6 zLen zByt k.1 k.2 A U H ∧ va_Z "java/lang/String" "COMPACT_STRINGS" "Z" (.int 1) A U H ∧ va_Zq "jdk/internal/util/Preconditions" "SIOOBE_FORMATTER" zFmtD A U H ∧
  vx_Zq Bundle.tN "UNASSIGNED_STACK" Bundle.steD A U H ∧ vx_Zq Bundle.tN "SUPPRESSED_SENTINEL" Bundle.listD A U H
def zE (k : ZS) (A : Nat → Prop) (U : State) : Prop := zE1 k U ∧ zE2 k A U U.heap
theorem zE1_warm {k : ZS} {s U : State} (hW : s.WarmedH U.vm) (h : zE1 k s) : zE1 k U := by
  obtain ⟨h1, h2, h3, h4, h5, h6, h7, h8, h9, h10, h11, h12, h13, h14, h15⟩ := h
  exact ⟨va_Nw.warmM hW h1, va_Nw.warmM hW h2, va_Nw.warmM hW h3, va_Nw.warmM hW h4, vk_R.warm hW h5, vk_R.warm hW h6, vk_R.warm hW h7, vk_R.warm hW h8, vk_R.warm hW h9, ⟨vk_R.warm hW h10.1, vk_R.warm hW h10.2⟩, va_AO.moved hW.alike h11, va_Nw.warmD hW h12, va_Nw.warmD hW h13, va_Nw.warmD hW h14, va_Nw.warmC hW h15⟩
theorem zE1_same {k : ZS} {s U : State} (hv : U.vm = s.vm) (h : zE1 k s) : zE1 k U := by
  obtain ⟨h1, h2, h3, h4, h5, h6, h7, h8, h9, h10, h11, h12, h13, h14, h15⟩ := h
  exact ⟨va_Nw.same rfl hv.symm h1, va_Nw.same rfl hv.symm h2, va_Nw.same rfl hv.symm h3, va_Nw.same rfl hv.symm h4, vk_R.same hv h5, vk_R.same hv h6, vk_R.same hv h7, vk_R.same hv h8, vk_R.same hv h9, ⟨vk_R.same hv h10.1, vk_R.same hv h10.2⟩, va_AO.moved (by rw [hv]; exact Vm.Alike.refl _) h11, va_Nw.warmD (by rw [hv]; exact State.WarmedH.refl s) h12, va_Nw.warmD (by rw [hv]; exact State.WarmedH.refl s) h13, va_Nw.warmD (by rw [hv]; exact State.WarmedH.refl s) h14, va_Nw.warmC (by rw [hv]; exact State.WarmedH.refl s) h15⟩
theorem zE2_moved {k : ZS} {A : Nat → Prop} {s U : State} {H : Heap} (hv : s.vm.Alike U.vm) (h : zE2 k A s H) : zE2 k A U H :=
  ⟨h.1.moved hv, h.2.1.moved hv, h.2.2.1.moved hv, h.2.2.2.1.moved hv, h.2.2.2.2.moved hv⟩
theorem zE2_kept {k : ZS} {A : Nat → Prop} {s : State} {H H1 : Heap} (h : zE2 k A s H) (hq : ∀ a : Nat, a < H.size → ¬ A a → H1[a]? = H[a]?) : zE2 k A s H1 :=
  ⟨h.1.kept hq, h.2.1.kept hq, h.2.2.1.kept hq, h.2.2.2.1.kept hq, h.2.2.2.2.kept hq⟩
theorem zE2_narrow {k : ZS} {A B : Nat → Prop} {s : State} {H : Heap} (h : zE2 k A s H) (hAB : ∀ q, B q → A q) : zE2 k B s H :=
  ⟨h.1.narrow hAB, h.2.1.narrow hAB, h.2.2.1.narrow hAB, h.2.2.2.1.narrow hAB, h.2.2.2.2.narrow hAB⟩
/-- at a callee's start -/
theorem zE_go {k : ZS} {A B : Nat → Prop} {s U : State} {H : Heap} {locs : List Loc} (h : zE k A s) (hS : va_S A s.heap H locs) (hU : U.heap = H) (hW : s.WarmedH U.vm) (hAB : ∀ q, B q → A q) : zE k B U :=
  ⟨zE1_warm hW h.1, by rw [hU]; exact zE2_moved hW.alike (zE2_narrow (zE2_kept h.2 hS.2.1) hAB)⟩
theorem zE_frame {k : ZS} {A : Nat → Prop} {U : State} {gf : JFrame} {mk : MethodId} {a : Array Value} (h : zE k A U) : zE k A (U.calling gf mk a) :=
  ⟨zE1_same (s := U) (U := U.calling gf mk a) rfl h.1, zE2_moved (U := U.calling gf mk a) (Vm.Alike.refl U.vm) h.2⟩
def zPe (k : ZS) (as : List Value) (g : ZG) (w : va_W) (sz : Nat) : Array Value → State → Prop := va_Pc as (fun U => U.heap.size = sz ∧ va_P g.1 vwCl w U.heap ∧ va_K g.1 vwCl (zY g) U ∧ va_D (fun _ => True) w ∧ zE k (va_A w sz) U)
theorem zPe_blind {k : ZS} {as : List Value} {g : ZG} {w : va_W} {sz : Nat} : FrameBlind (zPe k as g w sz) := fun a U gf mk q => by
  obtain ⟨q0, q1, qP, qK, qD, qE⟩ := q
  exact ⟨q0, q1, qP, va_K.moved (u := U) (U := U.calling gf mk a) (Vm.Alike.refl U.vm) qK, qD, zE_frame qE⟩
/-- a contract of a method that makes cells: a world with their places q -/
def zBa (g : ZG) (A : Nat → Prop) (W : (Nat → Nat) → va_W) : (Nat → Nat) → State → Prop := fun q t => va_P g.1 vwCl (W q) t.heap ∧ va_K g.1 vwCl (zY g) t ∧ va_D A (W q)
def zQa (W : (Nat → Nat) → va_W) (g : ZG) (A : Nat → Prop) : Array Value → State → Outcome → State → Prop := va_Qv (fun (_ : Nat → Nat) => True) (zBa g A W) A
def zMa (l : Launch) (k : ZS) (y : MethodName) (cc : ByteArray) (nL : Nat) (rm : Room) (g : ZG) (as : List Value) (w : va_W) (W : (Nat → Nat) → va_W) : Prop := ∀ sz : Nat, Met l y (zU y cc nL none) rm (zPe k as g w sz) (zQa W g (va_A w sz)) rm.cells rm.slots (va_A w sz)
/-- a pure method that needs what stands beside: strings -/
def zMsi (l : Launch) (k : ZS) (y : MethodName) (cc : ByteArray) (nL : Nat) (ret : Option FieldType) (rm : Room) (g : ZG) (as : List Value) (w : va_W) (r : Int32) : Prop := ∀ sz : Nat, Met l y (zU y cc nL ret) rm (zPe k as g w sz) (zQi r g (va_A w sz) w) 0 0 (va_A w sz)
def zMsl (l : Launch) (k : ZS) (y : MethodName) (cc : ByteArray) (nL : Nat) (ret : Option FieldType) (rm : Room) (g : ZG) (as : List Value) (w : va_W) (r : Int64) : Prop := ∀ sz : Nat, Met l y (zU y cc nL ret) rm (zPe k as g w sz) (zQl r g (va_A w sz) w) 0 0 (va_A w sz)
section AA
variable {p : Program} {l : Launch} {e : Env} {R : Room} {s : State} {m : MethodId} {args : Array Value} {below : List Frame} {meth : Method} {c : Code} {cc : ByteArray} {own : String} {nL : Nat} {A : Nat → Prop} {g : ZG} {ret : Option FieldType} {Q : State → Prop} {w w' : va_W} {nc ns : Nat} {lv lv' : List (Nat × Value)} {pc : Nat} {st : List Value} {ρ : Type} {r : ρ} {ks : ZS}
theorem z_pick (is : List Nat) (hn : va_nd is = true) (hs : is.map (fun i => w[i]?) = w'.map some) (hs2 : is.filterMap (fun i => w[i]?) = w') (k : V p l e R s m args below meth c A s.heap g nL Q w' nc ns lv pc st) : V p l e R s m args below meth c A s.heap g nL Q w nc ns lv pc st :=
  fun H locs ls hP hD hS hl => k H locs ls (hP.sub is hs2) (hD.sub is hn hs) hS hl
theorem z_widen {k n : Nat} (h1 : nc ≤ k) (h2 : ns ≤ n) (kk : V p l e R s m args below meth c A s.heap g nL Q w k n lv pc st) : V p l e R s m args below meth c A s.heap g nL Q w nc ns lv pc st :=
  fun H locs ls hP hD hS hl => W.widen h1 h2 (kk H locs ls hP hD hS hl)
theorem z_obj (cx : zC p s m args meth c cc own nL A s.heap g ret) {a idx : Nat} (hd : decode cc pc = .ok (.invokespecial idx, 3)) (pc2 : Nat) (hp : pc + 3 = pc2) (hlk : Cond.methodLink own idx Lib.objectInit ∈ zT) (hin : Cond.instanceMethod Lib.objectInit ∈ zT) (hco : Cond.code Lib.objectInit ⟨#[0xb1]⟩ 1 none ∈ zT) (hf : 1 ≤ R.frames) (hlo : (st.map fun v => v.category).sum + 12 ≤ R.locals) (k : V p l e R s m args below meth c A s.heap g nL Q w nc ns lv pc2 st) : V p l e R s m args below meth c A s.heap g nL Q w nc ns lv pc (.ref a :: st) := by
  subst hp
  exact fun H locs ls hP hD hS hl => W.objInit cx.1 cx.2.1 cx.2.2.2.2.1 (cx.2.2.2.1 _ hlk) (cx.2.2.2.1 _ hin) (cx.2.2.2.1 _ hco) rfl (by show ls.size = _; rw [hl.1, cx.2.2.1]) rfl hd hf (by show 2 * 0 + _ + _ ≤ _; omega) (k H locs ls hP hD hS hl)
theorem z_newa (cx : zC p s m args meth c cc own nL A s.heap g ret) {at9 : ArrayType} {ty : FieldType} {n : Nat} {a0 : vp_A} (t0 : Nat) (hd : decode cc pc = .ok (.newarray at9, 2)) (pc2 : Nat) (hp : pc + 2 = pc2) (hw : Cond.arrayClass (newarray.typeOf at9) ∈ zT) (hty : newarray.typeOf at9 = ty) (hy : (zY g)[t0]? = some (g.2.1 t0, ty)) (hra : ∀ (U : State) (c9 : ClassId), va_RA U c9 ty → U.vm.findClass ("[" ++ ty.toString) = some c9) (ha : ∀ cA : ClassId, vp_cell cA (n, a0.2) = arrV cA n (fun _ => defaultValue ty)) (hn : n ≤ 2000) (hb : n * componentBytes ty ≤ 536870912) (hc : nc + 1 ≤ R.cells) (hs : ns + n ≤ R.slots) {W : Nat → va_W} (hW : ∀ q, w ++ [(q, .inl (g.2.1 t0, n, a0.2))] = W q) (k : ∀ q, V p l e R s m args below meth c A s.heap g nL Q (W q) (nc + 1) (ns + n) lv pc2 (.ref q :: st)) : V p l e R s m args below meth c A s.heap g nL Q w nc ns lv pc (.int (zI n) :: st) := by
  subst hp
  intro H locs ls hP hD hS hl
  have t : (zI (n : Int)).toNatClampNeg = n := by
    rw [← Int32.toNat_toInt, show (zI (n : Int)).toInt = nm n from rfl, nm_eq (by omega) (by omega)]
    exact Int.toNat_natCast n
  have u : ¬ zI (n : Int) < 0 := by
    intro q
    have q := Int32.lt_iff_toInt_lt.mp q
    rw [show (zI (n : Int)).toInt = nm n from rfl, nm_eq (by omega) (by omega)] at q
    have : (0 : Int32).toInt = 0 := by decide
    omega
  refine va_newa (a0 := (n, a0.2)) cx.1 cx.2.1 (cx.2.2.2.1 _ hw) hty cx.2.2.2.2.2.1 hP hD hS cx.2.2.2.2.2.2.1 ha u t hb hc hs hd (fun q cA H1 hK1 hP1 hD1 hS1 => ?_)
  have e1 : cA = g.2.1 t0 := by
    have h1 := (hK1.2 4 (cA, ty) rfl).2
    have h2 := (cx.2.2.2.2.2.1.2 t0 _ hy).2
    exact Option.some.inj ((hra _ _ h1).symm.trans (hra _ _ h2))
  subst e1
  have e2 := hW q
  exact k q H1 locs ls (by rw [← e2]; exact hP1) (by rw [← e2]; exact hD1) hS1 hl
theorem z_newq (cx : zC p s m args meth c cc own nL A s.heap g ret) {n index : Nat} (hd : decode cc pc = .ok (.anewarray index, 3)) (pc2 : Nat) (hp : pc + 3 = pc2) (hlk : Cond.classLink own index "ForestPacks$Net" ∈ zT) (hE : va_AO "ForestPacks$Net" s) (hn : n ≤ 2000) (hc : nc + 1 ≤ R.cells) (hs : ns + n ≤ R.slots) {W : Nat → va_W} (hW : ∀ q, w ++ [(q, .inl (g.2.1 3, n, .inr (.inr (.inr (.inr (fun _ => none))))))] = W q) (k : ∀ q, V p l e R s m args below meth c A s.heap g nL Q (W q) (nc + 1) (ns + n) lv pc2 (.ref q :: st)) : V p l e R s m args below meth c A s.heap g nL Q w nc ns lv pc (.int (zI n) :: st) := by
  subst hp
  intro H locs ls hP hD hS hl
  have t : (zI (n : Int)).toNatClampNeg = n := by
    rw [← Int32.toNat_toInt, show (zI (n : Int)).toInt = nm n from rfl, nm_eq (by omega) (by omega)]
    exact Int.toNat_natCast n
  have u : ¬ zI (n : Int) < 0 := by
    intro q
    have q := Int32.lt_iff_toInt_lt.mp q
    rw [show (zI (n : Int)).toInt = nm n from rfl, nm_eq (by omega) (by omega)] at q
    have : (0 : Int32).toInt = 0 := by decide
    omega
  refine va_newq cx.1 cx.2.1 cx.2.2.2.2.1 (cx.2.2.2.1 _ hlk) hE cx.2.2.2.2.2.1 hP hD hS cx.2.2.2.2.2.2.1 u t (by omega) hc hs hd (fun q cA H1 hK1 hP1 hD1 hS1 => ?_)
  have e1 : cA = g.2.1 3 := by
    obtain ⟨k1, c1, -, -, -, h1⟩ := (hK1.2 4 (cA, .object "ForestPacks$Net") rfl).2
    obtain ⟨k2, c2, -, -, -, h2⟩ := (cx.2.2.2.2.2.1.2 3 (g.2.1 3, .object "ForestPacks$Net") rfl).2
    exact Option.some.inj (h1.symm.trans h2)
  subst e1
  have e2 := hW q
  exact k q H1 locs ls (by rw [← e2]; exact hP1) (by rw [← e2]; exact hD1) hS1 hl
theorem z_new (cx : zC p s m args meth c cc own nL A s.heap g ret) {C : String} {T : u_T} {N ci index : Nat} {fs : List Value} (hd : decode cc pc = .ok (.new index, 3)) (pc2 : Nat) (hp : pc + 3 = pc2) (hlk : Cond.classLink own index C ∈ zT) (hin : ∀ x ∈ u_ws C T N, x ∈ zT) (ty : Nat → FieldType) (hty : ∀ k, k < N → parseFieldDescriptor (T k).2.2.1 = some (ty k)) (hins : Cond.instantiable C N ∈ zT) (hini : Cond.initialized C ∈ zT) (hc : vwCl[ci]? = some (C, T, N)) (hfs : ∀ j, j < N → defaultValue (ty j) = vp_V fs j) (hcc : nc + 1 ≤ R.cells) (hss : ns + N ≤ R.slots) {W : Nat → va_W} (hW : ∀ q, w ++ [(q, .inr (ci, fs))] = W q) (k : ∀ q, V p l e R s m args below meth c A s.heap g nL Q (W q) (nc + 1) (ns + N) lv pc2 (.ref q :: st)) : V p l e R s m args below meth c A s.heap g nL Q w nc ns lv pc st := by
  subst hp
  intro H locs ls hP hD hS hl
  refine va_new cx.1 cx.2.1 cx.2.2.2.1 hin ty hty cx.2.2.2.2.1 (cx.2.2.2.1 _ hlk) (cx.2.2.2.1 _ hins) (cx.2.2.2.1 _ hini) cx.2.2.2.2.2.1 hP hD hS cx.2.2.2.2.2.2.1 hc hfs hcc hss hd (fun q H1 hP1 hD1 hS1 => ?_)
  have e2 := hW q
  exact k q H1 locs ls (by rw [← e2]; exact hP1) (by rw [← e2]; exact hD1) hS1 hl
theorem z_putF (cx : zC p s m args meth c cc own nL A s.heap g ret) (hin2 : meth.name = "<init>") {a ci index N : Nat} {ref C : String} {T : u_T} {ty0 : Nat → FieldType} {fs : List Value} {v : Value} (hd : decode cc pc = .ok (.putfield index, 3)) (pc2 : Nat) (hp : pc + 3 = pc2) {q0 : Nat} (he : w[q0]? = some (a, .inr (ci, fs))) (hc : vwCl[ci]? = some (C, T, N)) (hin : ∀ x ∈ u_ws C T N, x ∈ zT) (hty : ∀ k, k < N → parseFieldDescriptor (T k).2.2.1 = some (ty0 k)) (hnm : ∀ a, a < N → ∀ b, b < N → a ≠ b → (T a).2.1 ≠ (T b).2.1) (k0 : Nat) (hk : k0 < N) (hl : Cond.fieldLink own index ref (T k0).2.1 (T k0).2.2.1 ∈ zT) (hs : (T k0).1 = ref) (hfin : (T k0).2.2.2 = true) (hdecl : (T k0).1 = own) (hn : narrow (ty0 k0) v = v) (hfit : fits (ty0 k0) v = true) (hlen : k0 < fs.length) (hw : w.set q0 (a, .inr (ci, fs.set k0 v)) = w') (k : V p l e R s m args below meth c A s.heap g nL Q w' nc ns lv pc2 st) : V p l e R s m args below meth c A s.heap g nL Q w nc ns lv pc (v :: .ref a :: st) := by
  subst hp
  subst hs
  subst hw
  exact fun H locs ls hP hD hS hl2 => va_putF cx.1 cx.2.1 cx.2.2.2.1 hin ty0 hty hnm cx.2.2.2.2.1 cx.2.2.2.2.2.1 hP hD hS q0 he hc k0 hk (cx.2.2.2.1 _ hl) (fun _ h => h) hfin hin2 hdecl (hty k0 hk) hn hfit hlen hd (fun H locs hP hD hS => k H locs ls hP hD hS hl2)
theorem z_astq (cx : zC p s m args meth c cc own nL A s.heap g ret) {a n v i : Nat} {f : Nat → Option Nat} {fs : List Value} (hd : decode cc pc = .ok (.aastore, 1)) (pc2 : Nat) (hp : pc + 1 = pc2) (q0 qk : Nat) (he : w[q0]? = some (a, .inl (g.2.1 3, n, .inr (.inr (.inr (.inr f)))))) (hv : w[qk]? = some (v, .inr (5, fs))) (hi : i < n) (hn : n ≤ 2000) (hw : w.set q0 (a, .inl (g.2.1 3, n, .inr (.inr (.inr (.inr (va_up f i (some v))))))) = w') (k : V p l e R s m args below meth c A s.heap g nL Q w' nc ns lv pc2 st) : V p l e R s m args below meth c A s.heap g nL Q w nc ns lv pc (.ref v :: .int (zI i) :: .ref a :: st) := by
  subst hp
  subst hw
  have h1 : 0 ≤ (i : Int) ∧ (i : Int) < n := by omega
  intro H locs ls hP hD hS hl
  refine va_astq cx.1 cx.2.1 cx.2.2.2.2.2.1 hP hD hS q0 3 qk 5 (r := (RX5, TX5, 9)) he rfl hv rfl (zin_I h1 hn) hd (fun H1 locs1 hP1 hD1 hS1 => ?_)
  rw [ztn h1 hn] at hP1 hD1
  exact k H1 locs1 ls hP1 hD1 hS1 hl
/-- a constructor that was called, on the last cell of the world -/
theorem z_after {wr wc w1 : va_W} {H H1 : Heap} (hP : va_P g.1 vwCl (wr ++ wc) H) (hD : va_D A (wr ++ wc)) (hk : ∀ q : Nat, q < H.size → ¬ va_A wc H.size q → H1[q]? = H[q]?) (hF : ∀ q, va_A wc H.size q → A q) (hP1 : va_P g.1 vwCl w1 H1) (hD1 : va_D (va_A wc H.size) w1) : va_P g.1 vwCl (wr ++ w1) H1 ∧ va_D A (wr ++ w1) := by
  have hlt : ∀ q ∈ wr, q.1 < H.size ∧ ¬ va_A wc H.size q.1 := by
    intro q hq
    obtain ⟨i, hi⟩ := List.mem_iff_getElem?.mp hq
    have hil : i < wr.length := (List.getElem?_eq_some_iff.mp hi).1
    have hi2 : (wr ++ wc)[i]? = some q := by rw [List.getElem?_append_left hil]; exact hi
    have hl := (hP i q hi2).lt
    refine ⟨hl, fun h => ?_⟩
    rcases h with ⟨k2, e9, h⟩ | h
    · have hj : (wr ++ wc)[wr.length + k2]? = some (q.1, e9) := by rw [List.getElem?_append_right (by omega), Nat.add_sub_cancel_left]; exact h
      have := hD.1 i _ q (q.1, e9) hi2 hj rfl
      omega
    · omega
  constructor
  · rw [va_P_mem]
    intro q hq
    rcases List.mem_append.mp hq with h | h
    · obtain ⟨i, hi⟩ := List.mem_iff_getElem?.mp h
      have hil : i < wr.length := (List.getElem?_eq_some_iff.mp hi).1
      exact (hP i q (by rw [List.getElem?_append_left hil]; exact hi)).kept (hk q.1 (hlt q h).1 (hlt q h).2)
    · exact va_P_mem.mp hP1 q h
  · rw [va_D_nd] at hD hD1 ⊢
    rw [List.pairwise_append] at hD ⊢
    refine ⟨⟨hD.1.1, hD1.1, fun x hx y hy e9 => ?_⟩, fun q hq => ?_⟩
    · exact (hlt x hx).2 (by rw [e9]; exact hD1.2 y hy)
    · rcases List.mem_append.mp hq with h | h
      · exact hD.2 q (List.mem_append_left _ h)
      · exact hF _ (hD1.2 q h)
theorem z_freeA {wr wc : va_W} {H : Heap} {locs : List Loc} (cx : zC p s m args meth c cc own nL A s.heap g ret) (hD : va_D A (wr ++ wc)) (hS : va_S A s.heap H locs) : ∀ q, va_A wc H.size q → A q := by
  intro q h
  rcases h with ⟨k9, e9, h⟩ | h
  · exact (va_D_nd.mp hD).2 (q, e9) (List.mem_append_right _ (List.mem_of_getElem? h))
  · exact cx.2.2.2.2.2.2.1 q (Nat.le_trans hS.1 h)
theorem va_P_right {wr wc : va_W} {H : Heap} {D : va_G} (hP : va_P D vwCl (wr ++ wc) H) : va_P D vwCl wc H := va_P_mem.mpr (fun q hq => va_P_mem.mp hP q (List.mem_append_right _ hq))
theorem va_D_right {wr wc : va_W} (hD : va_D A (wr ++ wc)) : va_D (fun _ => True) wc := va_D_nd.mpr ⟨(List.pairwise_append.mp (va_D_nd.mp hD).1).2.1, fun _ _ => trivial⟩
theorem z_callI (cx : zC p s m args meth c cc own nL A s.heap g ret) (hE : zE ks A s) {wr wc : va_W} {W W' : (Nat → Nat) → va_W} {b : Nat} {y : MethodName} {bytes : ByteArray} {maxL index n : Nat} {rm : Room} {As rest : List Value} (hM : zMa l ks y bytes maxL rm g (.ref b :: As) wc W) (hd : decode cc pc = .ok (.invokespecial index, 3)) (pc2 : Nat) (hp : pc + 3 = pc2) (hK : zK y bytes maxL none n) (hlk : Cond.methodLink own index y ∈ zT) (hin : Cond.instanceMethod y ∈ zT) (hy1 : y.name = "<init>") (hw : w = wr ++ wc) (hR : rm.frames + 1 ≤ R.frames ∧ 8 + (maxL + 11) + rm.locals ≤ R.locals) (hn : As.length = n) (hst0 : st = As.reverse ++ .ref b :: rest) (hrs : (rest.map fun v => v.category).sum ≤ 8) (hroom : nc + rm.cells ≤ R.cells ∧ ns + rm.slots ≤ R.slots) (hW : ∀ q, wr ++ W q = W' q) (k : ∀ q, V p l e R s m args below meth c A s.heap g nL Q (W' q) (nc + rm.cells) (ns + rm.slots) lv pc2 rest) : V p l e R s m args below meth c A s.heap g nL Q w nc ns lv pc st := by
  subst hp
  subst hst0
  subst hw
  intro H locs ls hP hD hS hl
  have hF := z_freeA cx hD hS
  refine va_callv (va_runI (As := As) (rest := rest) ⟨cx.1, cx.2.1, cx.2.2.1, cx.2.2.2.2.1, cx.2.2.2.1⟩ (hM H.size) ⟨callB_of n cx.2.2.2.1 (zU_good hK.1) rfl rfl rfl (cx.2.2.2.1 _ hK.2.1) (cx.2.2.2.1 _ hlk) hK.2.2 hR, hy1, cx.2.2.2.1 _ hin⟩ ⟨zPe_blind, fun U hU hW => ⟨rfl, by rw [hU], by rw [hU]; exact va_P_right hP, va_K.moved hW.alike cx.2.2.2.2.2.1, va_D_right hD, zE_go hE hS hU hW hF⟩⟩ rfl hn hl.1 rfl (lv_room hrs) hd hroom) hS (fun q _ h => hF q h) hF (fun q t H1 locs1 ht hvm hw hB hz1 hk1 hS1 => ?_)
  obtain ⟨hP1, hK1, hD1⟩ := hB
  rw [ht] at hP1
  obtain ⟨hP2, hD2⟩ := z_after hP hD hk1 hF hP1 hD1
  rw [hW q] at hP2 hD2
  exact k q H1 locs1 ls hP2 hD2 hS1 hl
theorem z_callIN (cx : zC p s m args meth c cc own nL A s.heap g ret) (hE : zE ks A s) {wr wc : va_W} {W W' : (Nat → Nat) → va_W} {b : Nat} {y : MethodName} {bytes : ByteArray} {maxL index n : Nat} {host : String} {rm : Room} {As rest : List Value} (hM : zMa l ks y bytes maxL rm g (.ref b :: As) wc W) (hd : decode cc pc = .ok (.invokespecial index, 3)) (pc2 : Nat) (hp : pc + 3 = pc2) (hK : zK y bytes maxL none n) (hlk : va_Nw (.methodLinkNest own index y host) s) (hin : Cond.instanceMethod y ∈ zT) (hy1 : y.name = "<init>") (hw : w = wr ++ wc) (hR : rm.frames + 1 ≤ R.frames ∧ 8 + (maxL + 11) + rm.locals ≤ R.locals) (hn : As.length = n) (hst0 : st = As.reverse ++ .ref b :: rest) (hrs : (rest.map fun v => v.category).sum ≤ 8) (hroom : nc + rm.cells ≤ R.cells ∧ ns + rm.slots ≤ R.slots) (hW : ∀ q, wr ++ W q = W' q) (k : ∀ q, V p l e R s m args below meth c A s.heap g nL Q (W' q) (nc + rm.cells) (ns + rm.slots) lv pc2 rest) : V p l e R s m args below meth c A s.heap g nL Q w nc ns lv pc st := by
  subst hp
  subst hst0
  subst hw
  intro H locs ls hP hD hS hl
  have hF := z_freeA cx hD hS
  refine va_callv (va_runIN (As := As) (rest := rest) ⟨cx.1, cx.2.1, cx.2.2.1, cx.2.2.2.2.1, cx.2.2.2.1⟩ (hM H.size) ⟨va_cnB n cx.2.2.2.1 (zU_good hK.1) rfl rfl rfl hlk (cx.2.2.2.1 _ hK.2.1) hK.2.2 hR, hy1, cx.2.2.2.1 _ hin⟩ ⟨zPe_blind, fun U hU hW => ⟨rfl, by rw [hU], by rw [hU]; exact va_P_right hP, va_K.moved hW.alike cx.2.2.2.2.2.1, va_D_right hD, zE_go hE hS hU hW hF⟩⟩ rfl hn hl.1 rfl (lv_room hrs) hd hroom) hS (fun q _ h => hF q h) hF (fun q t H1 locs1 ht hvm hw hB hz1 hk1 hS1 => ?_)
  obtain ⟨hP1, hK1, hD1⟩ := hB
  rw [ht] at hP1
  obtain ⟨hP2, hD2⟩ := z_after hP hD hk1 hF hP1 hD1
  rw [hW q] at hP2 hD2
  exact k q H1 locs1 ls hP2 hD2 hS1 hl
theorem z_vretA {W9 : (Nat → Nat) → va_W} (cx : zC p s m args meth c cc own nL A s.heap g none) (hd : decode cc pc = .ok (.return_, 1)) (q : Nat → Nat) (hw : w = W9 q) : V p l e R s m args below meth c A s.heap g nL (MQ below (zQa W9 g A) args s nc ns A) w nc ns lv pc [] := by
  subst hw
  exact fun H locs ls hP hD hS hl => W.vret cx.1 cx.2.1 cx.2.2.2.2.2.2.2.1 (fun t ht hW => ⟨⟨q, rfl, trivial, by rw [ht]; exact hP, va_K.moved hW.alike cx.2.2.2.2.2.1, hD⟩, hS.F ht⟩) hS.2.2 hd cx.2.2.2.2.2.2.2.2
theorem zMa_of {k : ZS} {W : (Nat → Nat) → va_W} {y : MethodName} {rm : Room} {as : List Value} (ho : y.cls = own) (hy : plainName y.cls = true) (hlen : (lg_sl as).length ≤ nL) (hlv : lv_args 0 as = lv) (hy1 : y.name = "<init>")
    (body : ∀ (p : Program) (e : Env) (s : State) (m : MethodId) (args : Array Value) (below : List Frame) (meth : Method) (c : Code) (A : Nat → Prop) (Q : State → Prop), MQ below (zQa W g A) args s rm.cells rm.slots A = Q → zC p s m args meth c cc own nL A s.heap g none → zE k A s → meth.name = "<init>" → V p l e rm s m args below meth c A s.heap g nL Q w 0 0 lv 0 []) : zMa l k y cc nL rm g as w W := by
  intro sz
  subst ho
  refine Met.ofW (cc := cc) (maxL := nL) (ret := none) hy rfl ?_
  intro p e s m args below meth c s₁ B hml hv
  obtain ⟨rfl, hsz, hP, hK, hD0, hE⟩ := hv
  subst hsz
  have hts := atoms_spec (ws := zU y cc nL none) B.pre
  rw [lg_entry_eq]
  exact body p e s m _ below meth c (va_A w s.heap.size) _ rfl ⟨B.exec, B.bytes, hml, fun x hx => hts x (List.mem_cons_of_mem _ hx), findClass_of_methodNamed B.named, hK, fun q h => Or.inr h, B.returns, B.notSynchronized⟩ hE ((name_of_methodNamed B.named B.method).1.trans hy1) s.heap [] _ hP hD0.self va_S.rf (hlv ▸ lv_entry as hlen)
theorem zMsi_of {k : ZS} {y : MethodName} {rm : Room} {as : List Value} {r : Int32} (ho : y.cls = own) (hy : plainName y.cls = true) (hlen : (lg_sl as).length ≤ nL) (hlv : lv_args 0 as = lv)
    (body : ∀ (p : Program) (e : Env) (s : State) (m : MethodId) (args : Array Value) (below : List Frame) (meth : Method) (c : Code) (A : Nat → Prop) (Q : State → Prop), MQ below (zQi r g A w) args s 0 0 A = Q → zC p s m args meth c cc own nL A s.heap g ret → zE k A s → V p l e rm s m args below meth c A s.heap g nL Q w 0 0 lv 0 []) : zMsi l k y cc nL ret rm g as w r := by
  intro sz
  subst ho
  refine Met.ofW (cc := cc) (maxL := nL) (ret := ret) hy rfl ?_
  intro p e s m args below meth c s₁ B hml hv
  obtain ⟨rfl, hsz, hP, hK, hD0, hE⟩ := hv
  subst hsz
  have hts := atoms_spec (ws := zU y cc nL ret) B.pre
  rw [lg_entry_eq]
  exact body p e s m _ below meth c (va_A w s.heap.size) _ rfl ⟨B.exec, B.bytes, hml, fun x hx => hts x (List.mem_cons_of_mem _ hx), findClass_of_methodNamed B.named, hK, fun q h => Or.inr h, B.returns, B.notSynchronized⟩ hE s.heap [] _ hP hD0.self va_S.rf (hlv ▸ lv_entry as hlen)
theorem zMsl_of {k : ZS} {y : MethodName} {rm : Room} {as : List Value} {r : Int64} (ho : y.cls = own) (hy : plainName y.cls = true) (hlen : (lg_sl as).length ≤ nL) (hlv : lv_args 0 as = lv)
    (body : ∀ (p : Program) (e : Env) (s : State) (m : MethodId) (args : Array Value) (below : List Frame) (meth : Method) (c : Code) (A : Nat → Prop) (Q : State → Prop), MQ below (zQl r g A w) args s 0 0 A = Q → zC p s m args meth c cc own nL A s.heap g ret → zE k A s → V p l e rm s m args below meth c A s.heap g nL Q w 0 0 lv 0 []) : zMsl l k y cc nL ret rm g as w r := by
  intro sz
  subst ho
  refine Met.ofW (cc := cc) (maxL := nL) (ret := ret) hy rfl ?_
  intro p e s m args below meth c s₁ B hml hv
  obtain ⟨rfl, hsz, hP, hK, hD0, hE⟩ := hv
  subst hsz
  have hts := atoms_spec (ws := zU y cc nL ret) B.pre
  rw [lg_entry_eq]
  exact body p e s m _ below meth c (va_A w s.heap.size) _ rfl ⟨B.exec, B.bytes, hml, fun x hx => hts x (List.mem_cons_of_mem _ hx), findClass_of_methodNamed B.named, hK, fun q h => Or.inr h, B.returns, B.notSynchronized⟩ hE s.heap [] _ hP hD0.self va_S.rf (hlv ▸ lv_entry as hlen)
end AA
