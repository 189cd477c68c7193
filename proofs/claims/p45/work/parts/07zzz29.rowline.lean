-- needs: 07zzz28.rowforests
/-! net: an end of a line, the row of a line -/
theorem NR_names {R R' M M' : ZB} (h1 : R'.2 = R.2) (h2 : M'.2 = M.2) {n : Nat} (hnm : ∀ i, i < n → R.2 2 i = M.2 18 i ∧ ∃ v : Nat, R.2 2 i = (v : Int) ∧ v < 10460353203) : ∀ i, i < n → R'.2 2 i = M'.2 18 i ∧ ∃ v : Nat, R'.2 2 i = (v : Int) ∧ v < 10460353203 := by
  rw [h1, h2]; exact hnm
/-- one end: the reader reads it, the scanner has gone to it; `o` is the point that may not be taken again (-1: none) -/
theorem read_end {T R F M : ZB} {u p n : Nat} {o : Int} (ho : o = -1 ∨ ∃ i : Nat, i < n ∧ o = (i : Int)) (hC : CsR R) (hL : Look T u p R M) (hn : n ≤ 10) (hF : F.1 4 = (n : Int)) (hM : M.2 13 0 = (n : Int)) (hnm : ∀ i, i < n → R.2 2 i = M.2 18 i ∧ ∃ v : Nat, R.2 2 i = (v : Int) ∧ v < 10460353203) :
    (∃ (i p' : Nat) (R' : ZB), i < n ∧ (i : Int) ≠ o ∧ fRd_readEnd T R F o = some ((i : Int), R') ∧ fM_isName M = some 1 ∧ fM_named M = some (i : Int) ∧ R'.1 7 = (p' : Int) ∧ M.1 4 = (p' : Int) ∧ p < p' ∧ p' ≤ u ∧ TR u p R' M ∧ FrR R R' ∧ M.1 6 = 2) ∨
    (∃ R' M', fRd_readEnd T R F o = some (-1, R') ∧ ((fM_isName M = some 0 ∧ fM_bad M 1 = some (0, M')) ∨ ∃ q : Int, fM_isName M = some 1 ∧ fM_named M = some q ∧ (q = -1 ∨ (q = o ∧ ∃ i : Nat, i < n ∧ q = (i : Int))) ∧ fM_bad M 3 = some (0, M')) ∧ Fail R' M' ∧ FrR2 R R' ∧ FrM2 M M') := by
  unfold fRd_readEnd
  rcases read_name hC hL with ⟨v, p2, R2, r1, r1b, r2, r3, r4, r5, r6, r7, r8, r9, r10, r11, r12⟩ | ⟨R1, R', M', r1, r1b, r1c, r2, r3, r4, r5, r6⟩
  · have hnm2 : ∀ i, i < n → R2.2 2 i = M.2 18 i ∧ ∃ v : Nat, R2.2 2 i = (v : Int) ∧ v < 10460353203 := by rw [r12.2]; exact hnm
    obtain ⟨q, q1, q2, q3⟩ := point_of (R := R2) (F := F) (M := M) (n := n) (v := v) hn hF hM hnm2 r5 r4
    obtain ⟨R', M', g1, g2, g3, g4, g5⟩ := fail_both r11 (a := 3) (by omega) (fun z => absurd z (TR_fr r11 r6))
    have fl : (bd (fRd_fail R2 3) fun u_4 => some ((-1 : Int), u_4.2)) = some (-1, R') := by
      show bd (fRd_fail R2 ((3 : Nat) : Int)) _ = _
      rw [g1, bds]
    have ho2 : nm o = o := by
      rcases ho with z | ⟨i, i1, z⟩
      · rw [z]; decide
      · rw [z]; exact nmn (by omega)
    rw [r1, bds, r1b, bds, if_neg (by decide : ¬ nm 1 = 0), r3, q1, bds, kf0_e, ho2]
    rcases q3 with rfl | ⟨i, i1, rfl⟩
    · rw [if_pos (by decide)]
      exact Or.inr ⟨R', M', fl, Or.inr ⟨-1, r2, q2, Or.inl rfl, g2⟩, g3, FrR_tr r12 g4, g5⟩
    · rw [nmn (by omega), if_neg (by omega)]
      by_cases e : (i : Int) = o
      · rw [if_pos e]
        exact Or.inr ⟨R', M', fl, Or.inr ⟨(i : Int), r2, q2, Or.inr ⟨e, i, i1, rfl⟩, g2⟩, g3, FrR_tr r12 g4, g5⟩
      · rw [if_neg e]
        exact Or.inl ⟨i, p2, R2, i1, e, rfl, r2, q2, r7, r8, r9, r10, r11, r12, r6⟩
  · rw [r1, bds, r1b, bds, if_pos (by decide : nm 0 = 0), r1c, bds]
    exact Or.inr ⟨R', M', rfl, Or.inl ⟨r2, r3⟩, r4, r5, r6⟩
