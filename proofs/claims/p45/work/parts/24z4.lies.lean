-- needs: 24z3.netread
/-! the drawn text is laid on the tape -/
theorem tapp_lo {f : Nat → Int} {u : Nat} {a : Int} {i : Nat} (h : i < u) : ∀ k, tapp f u a k i = f i := by
  intro k
  induction k with
  | zero => rfl
  | succ k ih =>
    show up (tapp f u a k) (u + k) (zand (zushr a (24 - 8 * (k : Int))) 255) i = _
    rw [up_n _ _ (by omega)]; exact ih
theorem tapp_hi {f : Nat → Int} {u : Nat} {a : Int} {j : Nat} : ∀ k, j < k → tapp f u a k (u + j) = zand (zushr a (24 - 8 * (j : Int))) 255 := by
  intro k
  induction k with
  | zero => intro h; exact absurd h (Nat.not_lt_zero j)
  | succ k ih =>
    intro h
    show up (tapp f u a k) (u + k) (zand (zushr a (24 - 8 * (k : Int))) 255) (u + j) = _
    by_cases e : j = k
    · subst e; rw [up_e]
    · rw [up_n _ _ (by omega)]; exact ih (by omega)
theorem byt_step {A f : Nat → Int} {u m : Nat} {x : Int} (hu : u = 4 * m) (hx : x = A m) (h : ∀ i, i < u → f i = byt A i) : ∀ i, i < u + 4 → tapp f u x 4 i = byt A i := by
  intro i hi
  by_cases z : i < u
  · rw [tapp_lo z]; exact h i z
  · obtain ⟨j, rfl⟩ : ∃ j, i = u + j := ⟨i - u, by omega⟩
    rw [tapp_hi 4 (by omega)]
    unfold byt
    rw [show (u + j) / 4 = m by omega, show (u + j) % 4 = j by omega, hx]
theorem X_feed {T : ZB} {u : Nat} (h1 : T.1 1 = (u : Int)) (hu : u ≤ 620) (a1 a2 a3 a4 a5 : Int) : fX_feed T a1 a2 a3 a4 a5 = some (((u+4+4+4+4+4 : Nat) : Int), (up T.1 1 ((u+4+4+4+4+4 : Nat) : Int), ua T.2 0 (tapp (tapp (tapp (tapp (tapp (T.2 0) u a1 4) (u + 4) a2 4) (u + 4 + 4) a3 4) (u + 4 + 4 + 4) a4 4) (u + 4 + 4 + 4 + 4) a5 4))) := by
  unfold fX_feed fT_hasRoom
  simp only [kf1]
  rw [h1, show (u : Int) + 20 = ((u + 20 : Nat) : Int) by omega, nmn (show u + 20 < 2147483648 by omega), if_neg (show ¬ (640 : Int) < ((u + 20 : Nat) : Int) by omega), zo1, bds, if_neg (by decide : ¬ nm 1 = 0)]
  rw [T_add h1 (by omega), bds, T_add (u := u+4) rfl (by omega), bds, T_add (u := u+4+4) rfl (by omega), bds, T_add (u := u+4+4+4) rfl (by omega), bds, T_add (u := u+4+4+4+4) rfl (by omega), bds]
  unfold fT_size
  simp only [bds, up_up, ua_up, ua_e, up_e]
theorem X_end {T : ZB} {u n : Nat} (h1 : T.1 1 = (u : Int)) (hu : u ≤ 640) (hn : n ≤ u) : fX_end T (n : Int) = some (1, (up T.1 1 (n : Int), T.2)) := by
  unfold fX_end fT_size fT_cut
  simp only [kf0, lt_e, bds]
  rw [h1, nmn (show n < 2147483648 by omega), nmn (show u < 2147483648 by omega), if_neg (show ¬ (n : Int) < 0 by omega), if_neg (show ¬ (u : Int) < (n : Int) by omega)]
theorem L_lies {T La : ZB} {n u0 : Nat} (hT : T.1 1 = (u0 : Int)) (hu0 : u0 ≤ 640) (hn : n ≤ 240) : ∃ T', fL_lies T La (n : Int) = some (1, T') ∧ T'.1 1 = (n : Int) ∧ ∀ i, i < n → T'.2 0 i = byt (La.2 0) i := by
  have main : wp (fL_lies T La (n : Int)) (fun r => r.1 = 1 ∧ r.2.1 1 = (n : Int) ∧ ∀ i, i < n → r.2.2 0 i = byt (La.2 0) i) := by
    have h0 : fX_end T 0 = some (1, (up T.1 1 ((0 : Nat) : Int), T.2)) := X_end (n := 0) hT hu0 (Nat.zero_le _)
    unfold fL_lies
    rw [h0, bds]
    dsimp only
    rw [if_neg (by decide : ¬ nm 1 = 0)]
    refine lop2_w (fun v (R : ZB) => ∃ j : Nat, v = ((5 * j : Nat) : Int) ∧ R.1 1 = ((4 * (5 * j) : Nat) : Int) ∧ j ≤ 12 ∧ ∀ i, i < 4 * (5 * j) → R.2 0 i = byt (La.2 0) i) (fun v _ => 100 - v.toNat) ?_ FU _ _ ⟨0, rfl, rfl, by omega, fun i hi => absurd hi (Nat.not_lt_zero i)⟩ (by show 100 - _ < 100000; omega)
    intro rec v R hI hrec
    obtain ⟨j, rfl, r1, hj, hr⟩ := hI
    have e0 : 4 * ((5 * j : Nat) : Int) = ((4 * (5 * j) : Nat) : Int) := by omega
    have e1 : ((5 * j : Nat) : Int) + 1 = ((5 * j + 1 : Nat) : Int) := by omega
    have e2 : ((5 * j : Nat) : Int) + 2 = ((5 * j + 2 : Nat) : Int) := by omega
    have e3 : ((5 * j : Nat) : Int) + 3 = ((5 * j + 3 : Nat) : Int) := by omega
    have e4 : ((5 * j : Nat) : Int) + 4 = ((5 * j + 4 : Nat) : Int) := by omega
    have e5 : ((5 * j : Nat) : Int) + 5 = ((5 * (j + 1) : Nat) : Int) := by omega
    simp only [kf1, kf2, kf3, kf4]
    rw [e0, nmn (show 4 * (5 * j) < 2147483648 by omega), nmn (show n < 2147483648 by omega)]
    by_cases c : 4 * (5 * j) < n
    · rw [if_pos (show ((4 * (5 * j) : Nat) : Int) < (n : Int) by omega), rdn (show 5 * j < 64 by omega), e1, e2, e3, e4, e5, nmn (show 5 * j + 1 < 2147483648 by omega), nmn (show 5 * j + 2 < 2147483648 by omega), nmn (show 5 * j + 3 < 2147483648 by omega), nmn (show 5 * j + 4 < 2147483648 by omega)]
      rw [if_pos (show ((5 * j + 1 : Nat) : Int) < 64 by omega), rdn (show 5 * j + 1 < 64 by omega), if_pos (show ((5 * j + 2 : Nat) : Int) < 64 by omega), rdn (show 5 * j + 2 < 64 by omega), if_pos (show ((5 * j + 3 : Nat) : Int) < 64 by omega), rdn (show 5 * j + 3 < 64 by omega), if_pos (show ((5 * j + 4 : Nat) : Int) < 64 by omega), rdn (show 5 * j + 4 < 64 by omega)]
      rw [X_feed r1 (by omega), bds]
      dsimp only
      rw [nmn (show 4 * (5 * j) + 4 + 4 + 4 + 4 + 4 < 2147483648 by omega), if_neg (show ¬ ((4 * (5 * j) + 4 + 4 + 4 + 4 + 4 : Nat) : Int) < 0 by omega)]
      refine hrec _ _ ⟨j + 1, rfl, ?_, by omega, ?_⟩ (by omega)
      · show up R.1 1 ((4 * (5 * j) + 4 + 4 + 4 + 4 + 4 : Nat) : Int) 1 = _
        rw [up_e]
        congr 1
      · intro i hi
        refine (congrFun (ua_e R.2 0 _) i).trans ?_
        exact byt_step (m := 5 * j + 4) (by omega) rfl (byt_step (m := 5 * j + 3) (by omega) rfl (byt_step (m := 5 * j + 2) (by omega) rfl (byt_step (m := 5 * j + 1) (by omega) rfl (byt_step (m := 5 * j) rfl rfl hr)))) i (by omega)
    · rw [if_neg (show ¬ ((4 * (5 * j) : Nat) : Int) < (n : Int) by omega), X_end r1 (by omega) (by omega), bds, zo1]
      exact ⟨_, rfl, rfl, up_e R.1 1 (n : Int), fun i hi => hr i (by omega)⟩
  obtain ⟨⟨r, T'⟩, h1, h2, h3⟩ := main
  have h2' : r = 1 := h2
  subst h2'
  exact ⟨T', h1, h3⟩
