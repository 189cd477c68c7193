-- needs: 05.yrows
/-! rows for references, and for two cells that change their places in the world's list -/
theorem va_P_mem {D : va_G} {cl : List vw_C} {w : va_W} {H : Heap} : va_P D cl w H ↔ ∀ q ∈ w, va_at D cl q H := by
  constructor
  · intro h q hq
    obtain ⟨k, hk⟩ := List.mem_iff_getElem?.mp hq
    exact h k q hk
  · intro h k q hk
    exact h q (List.mem_of_getElem? hk)
theorem va_D_nd {A : Nat → Prop} {w : va_W} : va_D A w ↔ w.Pairwise (fun p q => p.1 ≠ q.1) ∧ ∀ q ∈ w, A q.1 := by
  unfold va_D
  rw [List.pairwise_iff_getElem]
  constructor
  · rintro ⟨h1, h2⟩
    refine ⟨?_, fun q hq => ?_⟩
    · intro i j hi hj hij e
      have := h1 i j _ _ (List.getElem?_eq_getElem hi) (List.getElem?_eq_getElem hj) e
      omega
    · obtain ⟨k, hk⟩ := List.mem_iff_getElem?.mp hq
      exact h2 k q hk
  · rintro ⟨h1, h2⟩
    refine ⟨fun i j p q hi hj e => ?_, fun k q hk => h2 q (List.mem_of_getElem? hk)⟩
    obtain ⟨li, rfl⟩ := List.getElem?_eq_some_iff.mp hi
    obtain ⟨lj, rfl⟩ := List.getElem?_eq_some_iff.mp hj
    rcases Nat.lt_trichotomy i j with h | h | h
    · exact absurd e (h1 i j li lj h)
    · exact h
    · exact absurd e.symm (h1 j i lj li h)
theorem va_P_perm {D : va_G} {cl : List vw_C} {w w' : va_W} {H : Heap} (hp : w.Perm w') (h : va_P D cl w H) : va_P D cl w' H := by
  rw [va_P_mem] at h ⊢
  exact fun q hq => h q (hp.mem_iff.mpr hq)
theorem va_D_perm {A : Nat → Prop} {w w' : va_W} (hp : w.Perm w') (h : va_D A w) : va_D A w' := by
  rw [va_D_nd] at h ⊢
  exact ⟨(hp.pairwise_iff (fun h e => h e.symm)).mp h.1, fun q hq => h.2 q (hp.mem_iff.mpr hq)⟩
section XX
variable {p : Program} {l : Launch} {e : Env} {R : Room} {s : State} {m : MethodId} {args : Array Value} {below : List Frame} {meth : Method} {c : Code} {cc : ByteArray} {own : String} {nL : Nat} {A : Nat → Prop} {H0 : Heap} {g : ZG} {ret : Option FieldType} {Q : State → Prop} {w w' : va_W} {nc ns : Nat} {lv lv' : List (Nat × Value)} {pc : Nat} {st : List Value} {ρ : Type} {r : ρ}
theorem z_perm (hp : w.Perm w') (k : V p l e R s m args below meth c A H0 g nL Q w' nc ns lv pc st) : V p l e R s m args below meth c A H0 g nL Q w nc ns lv pc st :=
  fun H locs ls hP hD hS hl => k H locs ls (va_P_perm hp hP) (va_D_perm hp hD) hS hl
theorem z_swap {pre post : va_W} {x y : Nat × va_E} (hw : w = pre ++ x :: y :: post) (hw' : w' = pre ++ y :: x :: post) (k : V p l e R s m args below meth c A H0 g nL Q w' nc ns lv pc st) : V p l e R s m args below meth c A H0 g nL Q w nc ns lv pc st := by
  subst hw
  subst hw'
  exact z_perm (List.Perm.append_left pre (List.Perm.swap y x post)) k
theorem z_aret {v : Nat} {w2 : va_W} {C : String} (cx : zC p s m args meth c cc own nL A s.heap g (some (.object C))) (hd : decode cc pc = .ok (.areturn, 1)) (hw : w = w2) : V p l e R s m args below meth c A s.heap g nL (MQ below (zQr v g A w2) args s nc ns A) w nc ns lv pc [.ref v] := by
  subst hw
  exact fun H locs ls hP hD hS hl => W.aret cx.1 cx.2.1 cx.2.2.2.2.2.2.2.1 (Or.inl ⟨_, rfl⟩) (Or.inr ⟨_, rfl⟩) (fun t ht hW => ⟨⟨(), v, rfl, trivial, rfl, by rw [ht]; exact hP, va_K.moved hW.alike cx.2.2.2.2.2.1, hD⟩, hS.F ht⟩) hS.2.2 hd cx.2.2.2.2.2.2.2.2
theorem z_callV_r (cx : zC p s m args meth c cc own nL A H0 g ret) {b : Nat} {C : String} {y : MethodName} {bytes : ByteArray} {maxL index n : Nat} {ty : Option FieldType} {rm : Room} {r : Nat} {As rest : List Value} (hM : zMr l y bytes maxL ty rm g (.ref b :: As) w w' r) (hd : decode cc pc = .ok (.invokevirtual index, 3)) (pc2 : Nat) (hp : pc + 3 = pc2) (hK : zK y bytes maxL ty n) (hlk : Cond.methodLink own index y ∈ zT) (hin : Cond.instanceMethod y ∈ zT) (hse : Cond.selects C y y ∈ zT) (hC : y.cls = C) {q0 ci N : Nat} {T : u_T} {fs : List Value} (he : w[q0]? = some (b, .inr (ci, fs))) (hc : vwCl[ci]? = some (C, T, N)) (hrm : rm.cells = 0 ∧ rm.slots = 0) (hR : rm.frames + 1 ≤ R.frames ∧ 8 + (maxL + 11) + rm.locals ≤ R.locals) (hn : As.length = n) (hst0 : st = As.reverse ++ .ref b :: rest) (hrs : (rest.map fun v => v.category).sum ≤ 8) (hroom : nc + 0 ≤ R.cells ∧ ns + 0 ≤ R.slots) (k : V p l e R s m args below meth c A H0 g nL Q w' nc ns lv pc2 (.ref r :: rest)) : V p l e R s m args below meth c A H0 g nL Q w nc ns lv pc (st) := by
  subst hp
  subst hst0
  intro H locs ls hP hD hS hl
  have hF : ∀ q, va_A w H.size q → A q := by
    intro q h
    rcases h with ⟨k9, e9, h⟩ | h
    · exact hD.2 k9 (q, e9) h
    · exact cx.2.2.2.2.2.2.1 q (Nat.le_trans hS.1 h)
  refine va_callr (va_runV (As := As) (rest := rest) ⟨cx.1, cx.2.1, cx.2.2.1, cx.2.2.2.2.1, cx.2.2.2.1⟩ (hM H.size) ⟨callB_of n cx.2.2.2.1 (zU_good hK.1) rfl hrm.1 hrm.2 (cx.2.2.2.1 _ hK.2.1) (cx.2.2.2.1 _ hlk) hK.2.2 hR, cx.2.2.2.1 _ hin, cx.2.2.2.1 _ hse⟩ ⟨zP_blind, va_recv cx.2.2.2.2.2.1 hP hc he, fun U hU hW => ⟨rfl, by rw [hU], by rw [hU]; exact hP, va_K.moved hW.alike cx.2.2.2.2.2.1, hD.weaken (fun _ _ _ _ => trivial)⟩⟩ rfl hn hl.1 rfl (lv_room hrs) hd hroom) hS (fun q _ h => hF q h) hF (fun u ra t H1 locs1 ht hvm hw hB hz1 hk1 hS1 => by
    obtain ⟨hra, hP1, hK1, hD1⟩ := hB
    subst hra
    rw [ht] at hP1
    exact k H1 locs1 ls hP1 (hD1.weaken (fun _ q _ h => hF q.1 h)) hS1 hl)
theorem zMr_q {l : Launch} {cc : ByteArray} {own : String} {nL : Nat} {g : ZG} {ret : Option FieldType} {w w' : va_W} {lv : List (Nat × Value)} {y : MethodName} {rm : Room} {r : Nat} {as : List Value} (ho : y.cls = own) (hy : plainName y.cls = true) (hlen : (lg_sl as).length ≤ nL) (hlv : lv_args 0 as = lv) (hcr : rm.cells = 0 ∧ rm.slots = 0)
    (body : ∀ (p : Program) (e : Env) (s : State) (m : MethodId) (args : Array Value) (below : List Frame) (meth : Method) (c : Code) (A : Nat → Prop) (Q : State → Prop), MQ below (zQr r g A w') args s 0 0 A = Q → zC p s m args meth c cc own nL A s.heap g ret → V p l e rm s m args below meth c A s.heap g nL Q w 0 0 lv 0 []) : zMr l y cc nL ret rm g as w w' r := by
  intro sz
  subst ho
  refine Met.ofW (cc := cc) (maxL := nL) (ret := ret) hy rfl ?_
  intro p e s m args below meth c s₁ B hml hv
  obtain ⟨rfl, hsz, hP, hK, hD0⟩ := hv
  subst hsz
  have hts := atoms_spec (ws := zU y cc nL ret) B.pre
  rw [lg_entry_eq]
  exact body p e s m _ below meth c (va_A w s.heap.size) _ rfl ⟨B.exec, B.bytes, hml, fun x hx => hts x (List.mem_cons_of_mem _ hx), findClass_of_methodNamed B.named, hK, fun q h => Or.inr h, B.returns, B.notSynchronized⟩ s.heap [] _ hP hD0.self va_S.rf (hlv ▸ lv_entry as hlen)
end XX
