-- needs: 20.lawrows
theorem zsc_r (xs : Nat → Int32) (j : Int) : -2147483648 ≤ zsc xs j ∧ zsc xs j < 2147483648 := ⟨Int32.le_toInt _, Int32.toInt_lt _⟩
theorem z_pm1 (a b c : va_W) : (a ++ (b ++ c)).Perm ((a ++ c) ++ b) := by
  rw [List.append_assoc]
  exact List.Perm.append_left a List.perm_append_comm
theorem z_pm2 (a b c : va_W) : ((a ++ c) ++ b).Perm (a ++ (b ++ c)) := (z_pm1 a b c).symm
theorem zlc_0 {x y : Int} (h : x = nm y) : zI (zlcmp x (nm y)) = 0 := by
  rw [h]
  have q : zlcmp (nm y) (nm y) = 0 := by
    unfold zlcmp
    rw [if_neg (Int.lt_irrefl _), if_pos rfl]
  rw [q]
  rfl
section LO
variable {p : Program} {l : Launch} {e : Env} {R : Room} {s : State} {m : MethodId} {args : Array Value} {below : List Frame} {meth : Method} {c : Code} {cc : ByteArray} {own : String} {nL : Nat} {A : Nat → Prop} {g : ZG} {ret : Option FieldType} {Q : State → Prop} {w w' : va_W} {nc ns : Nat} {lv lv' : List (Nat × Value)} {pc : Nat} {st : List Value}
theorem z_loutl (cx : zC p s m args meth c cc own nL A s.heap g ret) {o9 : Nat} {f : Nat → Int} {wr : va_W} (hd : decode cc pc = .ok (.laload, 1)) (pc2 : Nat) (hp : pc + 1 = pc2) (hw : w = wr ++ [(o9, .inl (g.2.1 1, 1, .inr (.inl (wj f))))]) (k : V p l e R s m args below meth c A s.heap g nL Q w nc ns lv pc2 (.long (zJ (f 0)) :: st)) : V p l e R s m args below meth c A s.heap g nL Q w nc ns lv pc (.int (zI 0) :: .ref o9 :: st) := by
  subst hw
  refine z_perm (List.perm_append_comm (l₁ := wr)) ?_
  refine z_lald (q0 := 0) (n := 1) (i := zI 0) (x := zJ (f 0)) cx hd pc2 hp rfl (zin_I (i := 0) (by decide) (by decide)) (by rw [ztn (i := 0) (n := 1) (by decide) (by decide)]; rfl) ?_
  exact z_perm List.perm_append_comm k
end LO
