-- needs: 18.xwrap 19.image
/-! rows of the law: the script, calls on a part of the world -/
section LL
variable {p : Program} {l : Launch} {e : Env} {R : Room} {s : State} {m : MethodId} {args : Array Value} {below : List Frame} {meth : Method} {c : Code} {cc : ByteArray} {own : String} {nL : Nat} {A : Nat → Prop} {g : ZG} {ret : Option FieldType} {Q : State → Prop} {w w' : va_W} {nc ns : Nat} {lv lv' : List (Nat × Value)} {pc : Nat} {st : List Value} {ks : ZS}
def zsc (xs : Nat → Int32) (j : Int) : Int := (xs j.toNat).toInt
theorem z_sld (cx : zC p s m args meth c cc own nL A s.heap g ret) {b L : Nat} {xs : Nat → Int32} (hX : va_X b L xs s s.heap) (hbl : b < s.heap.size) (hbA : ¬ A b) {i : Int} (hi : 0 ≤ i ∧ i < L) (hL : L ≤ 3072) (hd : decode cc pc = .ok (.iaload, 1)) (pc2 : Nat) (hp : pc + 1 = pc2) (k : V p l e R s m args below meth c A s.heap g nL Q w nc ns lv pc2 (.int (zI (zsc xs i)) :: st)) : V p l e R s m args below meth c A s.heap g nL Q w nc ns lv pc (.int (zI i) :: .ref b :: st) := by
  subst hp
  intro H locs ls hP hD hS hl
  have e1 : (zI i).toInt = i := nm_eq (by omega) (by omega)
  have e2 : (zI i).toNatClampNeg = i.toNat := by rw [← Int32.toNat_toInt, e1]
  have e3 : vp_in (zI i) L := vp_in_iff.mpr (by rw [e1]; exact hi)
  refine va_sld cx.1 cx.2.1 hX hbl hbA hS e3 hd ?_
  have q := k H locs ls hP hD hS hl
  unfold zsc at q
  rw [zI_toInt] at q
  rw [e2]
  exact q
theorem z_slen (cx : zC p s m args meth c cc own nL A s.heap g ret) {b L : Nat} {xs : Nat → Int32} (hX : va_X b L xs s s.heap) (hbl : b < s.heap.size) (hbA : ¬ A b) (hd : decode cc pc = .ok (.arraylength, 1)) (pc2 : Nat) (hp : pc + 1 = pc2) (k : V p l e R s m args below meth c A s.heap g nL Q w nc ns lv pc2 (.int (zI L) :: st)) : V p l e R s m args below meth c A s.heap g nL Q w nc ns lv pc (.ref b :: st) := by
  subst hp
  exact fun H locs ls hP hD hS hl => va_slen cx.1 cx.2.1 hX hbl hbA hS hd (k H locs ls hP hD hS hl)
theorem z_callF (cx : zC p s m args meth c cc own nL A s.heap g ret) {ad : Nat → Nat} {wr wc wc' : va_W} {b : Nat} {C : String} {y : MethodName} {bytes : ByteArray} {maxL index n : Nat} {ty : Option FieldType} {rm : Room} {r : Int32} {As rest : List Value} (hM : zMi l y bytes maxL ty rm (g.1, g.2.1, ad) (.ref b :: As) wc wc' r) (hd : decode cc pc = .ok (.invokevirtual index, 3)) (pc2 : Nat) (hp : pc + 3 = pc2) (hK : zK y bytes maxL ty n) (hlk : Cond.methodLink own index y ∈ zT) (hin : Cond.instanceMethod y ∈ zT) (hse : Cond.selects C y y ∈ zT) (hC : y.cls = C) {q0 ci N : Nat} {T : u_T} {fs : List Value} (he : wc[q0]? = some (b, .inr (ci, fs))) (hc : vwCl[ci]? = some (C, T, N)) (hw : w.Perm (wr ++ wc)) (hw' : (wr ++ wc').Perm w') (hrm : rm.cells = 0 ∧ rm.slots = 0) (hR : rm.frames + 1 ≤ R.frames ∧ 8 + (maxL + 11) + rm.locals ≤ R.locals) (hn : As.length = n) (hst0 : st = As.reverse ++ .ref b :: rest) (hrs : (rest.map fun v => v.category).sum ≤ 8) (hroom : nc + 0 ≤ R.cells ∧ ns + 0 ≤ R.slots) (k : V p l e R s m args below meth c A s.heap g nL Q w' nc ns lv pc2 (.int r :: rest)) : V p l e R s m args below meth c A s.heap g nL Q w nc ns lv pc st := by
  subst hp
  subst hst0
  refine z_perm hw ?_
  intro H locs ls hP hD hS hl
  have hF := z_freeA cx hD hS
  refine va_calli (va_runV (As := As) (rest := rest) ⟨cx.1, cx.2.1, cx.2.2.1, cx.2.2.2.2.1, cx.2.2.2.1⟩ (hM H.size) ⟨callB_of n cx.2.2.2.1 (zU_good hK.1) rfl hrm.1 hrm.2 (cx.2.2.2.1 _ hK.2.1) (cx.2.2.2.1 _ hlk) hK.2.2 hR, cx.2.2.2.1 _ hin, cx.2.2.2.1 _ hse⟩ ⟨zP_blind, va_recv cx.2.2.2.2.2.1 (va_P_right hP) hc he, fun U hU hW => ⟨rfl, by rw [hU], by rw [hU]; exact va_P_right hP, va_K.moved hW.alike cx.2.2.2.2.2.1, va_D_right hD⟩⟩ rfl hn hl.1 rfl (lv_room hrs) hd hroom) hS (fun q _ h => hF q h) hF (fun r2 u t H1 locs1 ht hvm hw hB hz1 hk1 hS1 => ?_)
  subst hw
  obtain ⟨hP1, hK1, hD1⟩ := hB
  rw [ht] at hP1
  obtain ⟨hP2, hD2⟩ := z_after hP hD hk1 hF hP1 hD1
  exact k H1 locs1 ls (va_P_perm hw' hP2) (va_D_perm hw' hD2) hS1 hl
theorem z_callFq (cx : zC p s m args meth c cc own nL A s.heap g ret) (hE : zE ks A s) {ad : Nat → Nat} {wr wc : va_W} {post : Int32 → va_W → Prop} {b : Nat} {C : String} {y : MethodName} {bytes : ByteArray} {maxL index n : Nat} {ty : Option FieldType} {rm : Room} {As rest : List Value} (hM : zMq l ks y bytes maxL ty rm (g.1, g.2.1, ad) (.ref b :: As) wc post) (hd : decode cc pc = .ok (.invokevirtual index, 3)) (pc2 : Nat) (hp : pc + 3 = pc2) (hK : zK y bytes maxL ty n) (hlk : Cond.methodLink own index y ∈ zT) (hin : Cond.instanceMethod y ∈ zT) (hse : Cond.selects C y y ∈ zT) (hC : y.cls = C) {q0 ci N : Nat} {T : u_T} {fs : List Value} (he : wc[q0]? = some (b, .inr (ci, fs))) (hc : vwCl[ci]? = some (C, T, N)) (hw : w.Perm (wr ++ wc)) (hR : rm.frames + 1 ≤ R.frames ∧ 8 + (maxL + 11) + rm.locals ≤ R.locals) (hn : As.length = n) (hst0 : st = As.reverse ++ .ref b :: rest) (hrs : (rest.map fun v => v.category).sum ≤ 8) (hroom : nc + rm.cells ≤ R.cells ∧ ns + rm.slots ≤ R.slots) (k : ∀ (r : Int32) (wc' : va_W), post r wc' → V p l e R s m args below meth c A s.heap g nL Q (wr ++ wc') (nc + rm.cells) (ns + rm.slots) lv pc2 (.int r :: rest)) : V p l e R s m args below meth c A s.heap g nL Q w nc ns lv pc st := by
  subst hp
  subst hst0
  refine z_perm hw ?_
  intro H locs ls hP hD hS hl
  have hF := z_freeA cx hD hS
  refine va_calli (va_runV (As := As) (rest := rest) ⟨cx.1, cx.2.1, cx.2.2.1, cx.2.2.2.2.1, cx.2.2.2.1⟩ (hM H.size) ⟨callB_of n cx.2.2.2.1 (zU_good hK.1) rfl rfl rfl (cx.2.2.2.1 _ hK.2.1) (cx.2.2.2.1 _ hlk) hK.2.2 hR, cx.2.2.2.1 _ hin, cx.2.2.2.1 _ hse⟩ ⟨zPe_blind, va_recv cx.2.2.2.2.2.1 (va_P_right hP) hc he, fun U hU hW => ⟨rfl, by rw [hU], by rw [hU]; exact va_P_right hP, va_K.moved hW.alike cx.2.2.2.2.2.1, va_D_right hD, zE_go hE hS hU hW hF⟩⟩ rfl hn hl.1 rfl (lv_room hrs) hd hroom) hS (fun q _ h => hF q h) hF (fun r2 u t H1 locs1 ht hvm hpo hB hz1 hk1 hS1 => ?_)
  obtain ⟨hP1, hK1, hD1⟩ := hB
  rw [ht] at hP1
  obtain ⟨hP2, hD2⟩ := z_after hP hD hk1 hF hP1 hD1
  exact k r2 u hpo H1 locs1 ls hP2 hD2 hS1 hl
theorem z_callFw (cx : zC p s m args meth c cc own nL A s.heap g ret) (hE : zE ks A s) {wr wc wc' : va_W} {hh : List (Nat × Nat × Nat × Nat)} {y : MethodName} {bytes : ByteArray} {maxL index n : Nat} {rm : Room} {r : Int32} {As rest : List Value} (hM : zMw l ks y bytes maxL hh rm g As wc wc' r) (hd : decode cc pc = .ok (.invokestatic index, 3)) (pc2 : Nat) (hp : pc + 3 = pc2) (hco : Cond.codeWith y bytes maxL (some .int) hh ∈ zT) (hini : Cond.initialized y.cls ∈ zT) (hy : y.cls ≠ "java/lang/invoke/MethodHandle" ∧ y.cls ≠ "java/lang/invoke/VarHandle" ∧ (parseMethodDescriptor y.desc).map (fun d => d.parameters.length) = some n) (hlk : Cond.methodLink own index y ∈ zT) (hst : Cond.static y ∈ zT) (hw : w.Perm (wr ++ wc)) (hw' : (wr ++ wc').Perm w') (hR : rm.frames + 1 ≤ R.frames ∧ 8 + (maxL + 11) + rm.locals ≤ R.locals) (hn : As.length = n) (hst0 : st = As.reverse ++ rest) (hrs : (rest.map fun v => v.category).sum ≤ 8) (hroom : nc + rm.cells ≤ R.cells ∧ ns + rm.slots ≤ R.slots) (k : V p l e R s m args below meth c A s.heap g nL Q w' (nc + rm.cells) (ns + rm.slots) lv pc2 (.int r :: rest)) : V p l e R s m args below meth c A s.heap g nL Q w nc ns lv pc st := by
  subst hp
  subst hst0
  refine z_perm hw ?_
  intro H locs ls hP hD hS hl
  have hF := z_freeA cx hD hS
  have hG : GoodIn zT (va_wsS own index y (Cond.codeWith y bytes maxL (some .int) hh :: zT)) := by
    intro w hw
    have h2 : w ∈ zT := by
      unfold va_wsS at hw
      simp only [List.mem_append, List.mem_cons, List.not_mem_nil, or_false] at hw
      rcases hw with h | h | h
      · rcases h with h | h | h <;> subst h <;> assumption
      · subst h; exact hco
      · exact h
    exact ⟨h2, good_of_word (zT_good _ h2)⟩
  refine va_calli (vx_runSW (As := As) (rest := rest) ⟨cx.1, cx.2.1, cx.2.2.1, cx.2.2.2.2.1, cx.2.2.2.1⟩ (hM H.size) (vx_cwSW n cx.2.2.2.1 hG rfl rfl rfl hy hR) ⟨zPe_blind, fun U hU hW => ⟨rfl, by rw [hU], by rw [hU]; exact va_P_right hP, va_K.moved hW.alike cx.2.2.2.2.2.1, va_D_right hD, zE_go hE hS hU hW hF⟩⟩ rfl hn hl.1 rfl (lv_room hrs) hd hroom) hS (fun q _ h => hF q h) hF (fun r2 u t H1 locs1 ht hvm hw hB hz1 hk1 hS1 => ?_)
  subst hw
  obtain ⟨hP1, hK1, hD1⟩ := hB
  rw [ht] at hP1
  obtain ⟨hP2, hD2⟩ := z_after hP hD hk1 hF hP1 hD1
  exact k H1 locs1 ls (va_P_perm hw' hP2) (va_D_perm hw' hD2) hS1 hl
end LL
