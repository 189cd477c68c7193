-- needs: 07zzz24.look
/-! net: numbers, names, points -/
theorem FrR_tr {R R1 R' : ZB} (h : FrR R R1) (h' : FrR2 R1 R') : FrR2 R R' := ⟨fun i a b c d e f => by rw [h'.1 i a b c d e f]; exact h.1 i a b c d, by rw [h'.2]; exact h.2⟩
theorem read_number {T R M : ZB} {u p b : Nat} (hb : b ≤ 99) (hp : Tp T u M) (hL : Look T u p R M) : (∃ (v p' : Nat) (R' M' : ZB), fRd_readNumber T R (b : Int) = some (1, R') ∧ fM_readNumber M 1 (b : Int) = some (1, M') ∧ 1 ≤ v ∧ v ≤ b ∧ R'.1 10 = (v : Int) ∧ M'.1 11 = (v : Int) ∧ p < p' ∧ Look T u p' R' M' ∧ FrR R R' ∧ FrM2 M M' ∧ M'.1 8 = M.1 8) ∨ (∃ R' M', fRd_readNumber T R (b : Int) = some (0, R') ∧ fM_readNumber M 1 (b : Int) = some (0, M') ∧ Fail R' M' ∧ FrR2 R R' ∧ FrM2 M M') := by
  obtain ⟨hpu, h7, hL0⟩ := hL
  obtain ⟨R1, n1, n2, n3⟩ := hL0 R h7
  have wrong : R1.1 8 ≠ 2 → M.1 6 ≠ 3 → nm (R1.1 8) = R1.1 8 → nm (M.1 6) = M.1 6 → (∃ R' M', fRd_readNumber T R (b : Int) = some (0, R') ∧ fM_readNumber M 1 (b : Int) = some (0, M') ∧ Fail R' M' ∧ FrR2 R R' ∧ FrM2 M M') := by
    intro h1 h2 h3 h4
    obtain ⟨R', M', f1, f2, f3, f4, f5⟩ := fail_both n2 (a := 1) (by omega) (fun _ => rfl)
    refine ⟨R', M', ?_, ?_, f3, FrR_tr n3 f4, f5⟩
    · unfold fRd_readNumber
      rw [n1, bds, h3, if_neg h1]
      show bd (fRd_fail R1 ((1 : Nat) : Int)) _ = _
      rw [f1, bds]; exact zo0
    · unfold fM_readNumber
      rw [h4, if_neg h2]
      show bd (fM_bad M ((1 : Nat) : Int)) _ = _
      rw [f2, bds]; exact zo0
  rcases n2.2 with ⟨_, _, h, h', _⟩ | ⟨v, p', h, h', c10, c7, cv, c1, c2, c3, c4⟩ | ⟨_, h, h', _⟩ | ⟨h, h', _⟩ | ⟨h, h', _⟩ | ⟨h, h'⟩
  · exact Or.inr (wrong (by omega) (by omega) (by rw [h]; decide) (by rw [h']; decide))
  · have z1 : zlcmp (v : Int) 1 = if 1 < v then 1 else if v = 1 then 0 else -1 := zlc (b := 1) (by omega) (by omega)
    have z2 := zlc (a := v) (b := b) (by omega) (by omega)
    have hin := M_isIn (x := (v : Int)) (m := 1) (n := (b : Int)) (by omega) (by omega) (by omega)
    by_cases hv : 1 ≤ v ∧ v ≤ b
    · have e11 : ((up M.1 11 (v : Int), M.2) : ZB).1 11 = (v : Int) := up_e M.1 11 (v : Int)
      have hT2 : Tp T u (up M.1 11 (v : Int), M.2) := hp
      obtain ⟨M', g1, g2, g3⟩ := look_of (R := R1) hT2 c4 c1 c2
      refine Or.inl ⟨v, p', R1, M', ?_, ?_, hv.1, hv.2, c10, ?_, c3, g2, n3, ⟨fun i a b c d e f g k => ?_, g3.2⟩, g3.1 8 (by decide) (by decide) (by decide) (by decide) (by decide)⟩
      · unfold fRd_readNumber
        rw [n1, bds, h, if_pos (by decide), kf2_e, c10, nmn (show b < 2147483648 by omega), z1, z2]
        rw [if_neg (show ¬ b < v by omega)]
        by_cases y : 1 < v
        · rw [if_pos y, kf0_e, if_neg (by decide)]
          by_cases y2 : v = b
          · rw [if_pos y2, if_neg (by decide)]; exact zo1
          · rw [if_neg y2, if_neg (by decide)]; exact zo1
        · rw [if_neg y, if_pos (show v = 1 by omega), kf0_e, if_neg (by decide)]
          by_cases y2 : v = b
          · rw [if_pos y2, if_neg (by decide)]; exact zo1
          · rw [if_neg y2, if_neg (by decide)]; exact zo1
      · unfold fM_readNumber
        rw [h', if_pos (by decide), c7, hin, bds, q10t (show (1 : Int) ≤ (v : Int) ∧ (v : Int) ≤ (b : Int) by omega), lt_e, g1, bds]
      · rw [g3.1 11 (by decide) (by decide) (by decide) (by decide) (by decide)]; exact e11
      · rw [g3.1 i a b c d g]
        show up M.1 11 _ i = _
        rw [up_n _ _ k]
    · obtain ⟨R', M', f1, f2, f3, f4, f5⟩ := fail_both n2 (a := 2) (by omega) (fun z => by omega)
      refine Or.inr ⟨R', M', ?_, ?_, f3, FrR_tr n3 f4, f5⟩
      · unfold fRd_readNumber
        have fl : (bd (fRd_fail R1 2) fun u_6 => zo u_6.1 <| some (u_6.1, u_6.2)) = some (0, R') := by
          show bd (fRd_fail R1 ((2 : Nat) : Int)) _ = _
          rw [f1, bds]; exact zo0
        rw [n1, bds, h, if_pos (by decide), kf2_e, c10, nmn (show b < 2147483648 by omega), z1, z2, kf0_e]
        by_cases y : v < 1
        · rw [if_neg (show ¬ 1 < v by omega), if_neg (show ¬ v = 1 by omega), if_pos (by decide)]; exact fl
        · rw [if_pos (show b < v by omega)]
          by_cases y1 : 1 < v
          · rw [if_pos y1, if_neg (by decide), if_pos (by decide)]; exact fl
          · rw [if_neg y1, if_pos (show v = 1 by omega), if_neg (by decide), if_pos (by decide)]; exact fl
      · unfold fM_readNumber
        rw [h', if_pos (by decide), c7, hin, bds, q10f (show ¬ ((1 : Int) ≤ (v : Int) ∧ (v : Int) ≤ (b : Int)) by omega)]
        show bd (fM_bad M ((2 : Nat) : Int)) _ = _
        rw [f2, bds]; exact zo0
  · exact Or.inr (wrong (by omega) (by omega) (by rw [h]; decide) (by rw [h']; decide))
  · exact Or.inr (wrong (by omega) (by omega) (by rw [h]; decide) (by rw [h']; decide))
  · exact Or.inr (wrong (by omega) (by omega) (by rw [h]; decide) (by rw [h']; decide))
  · exact Or.inr (wrong (by omega) (by omega) (by rw [h]; decide) (by rw [h']; decide))
def wPoint : Nat := 8805260
def wLine : Nat := 243140
def wForests : Nat := 2549435302
def CsR (R : ZB) : Prop := R.1 3 = 8805260 ∧ R.1 4 = 243140 ∧ R.1 5 = 2549435302
theorem M_isWord {M : ZB} {v w : Nat} (h6 : M.1 6 = 2) (h10 : M.1 10 = (v : Int)) (hv : v < 2 ^ 62) (hw : w < 2 ^ 62) : fM_isWord M (w : Int) = some (if dc (v = w) then 1 else 0) := by
  unfold fM_isWord
  rw [kf1_e, kf0_e, h6, if_pos (by decide), h10, zlc hv hw]
  by_cases h : v = w
  · rw [idt h, if_neg (show ¬ w < v by omega), if_pos h, if_pos rfl]; exact zo1
  · rw [idf h]
    by_cases y : w < v
    · rw [if_pos y, if_neg (by decide)]; exact zo0
    · rw [if_neg y, if_neg h, if_neg (by decide)]; exact zo0
theorem M_noWord {M : ZB} (w : Int) (h6 : M.1 6 ≠ 2) (hn : nm (M.1 6) = M.1 6) : fM_isWord M w = some 0 := by
  unfold fM_isWord
  rw [kf1_e, kf0_e, hn, if_neg h6]; exact zo0
theorem zob2 {c : Bool} : zo (if c then 1 else 0) (some (if c then (1 : Int) else 0)) = some (if c then 1 else 0) := by
  cases c
  · exact zo0
  · exact zo1
theorem M_words {M : ZB} {v : Nat} (h6 : M.1 6 = 2) (h10 : M.1 10 = (v : Int)) (hv : v < 2 ^ 62) : fM_isPointWord M = some (if dc (v = wPoint) then 1 else 0) ∧ fM_isLineWord M = some (if dc (v = wLine) then 1 else 0) ∧ fM_isForestsWord M = some (if dc (v = wForests) then 1 else 0) := by
  refine ⟨?_, ?_, ?_⟩
  · unfold fM_isPointWord
    rw [show fM_spelt 112 111 105 110 116 0 0 = some ((wPoint : Nat) : Int) from by decide +kernel, bds, M_isWord h6 h10 hv (by decide), bds]; exact zob2
  · unfold fM_isLineWord
    rw [show fM_spelt 108 105 110 101 0 0 0 = some ((wLine : Nat) : Int) from by decide +kernel, bds, M_isWord h6 h10 hv (by decide), bds]; exact zob2
  · unfold fM_isForestsWord
    rw [show fM_spelt 102 111 114 101 115 116 115 = some ((wForests : Nat) : Int) from by decide +kernel, bds, M_isWord h6 h10 hv (by decide), bds]; exact zob2
theorem M_nowords {M : ZB} (h6 : M.1 6 ≠ 2) (hn : nm (M.1 6) = M.1 6) : fM_isPointWord M = some 0 ∧ fM_isLineWord M = some 0 ∧ fM_isForestsWord M = some 0 := by
  refine ⟨?_, ?_, ?_⟩
  · unfold fM_isPointWord
    rw [show fM_spelt 112 111 105 110 116 0 0 = some ((wPoint : Nat) : Int) from by decide +kernel, bds, M_noWord _ h6 hn, bds]; exact zo0
  · unfold fM_isLineWord
    rw [show fM_spelt 108 105 110 101 0 0 0 = some ((wLine : Nat) : Int) from by decide +kernel, bds, M_noWord _ h6 hn, bds]; exact zo0
  · unfold fM_isForestsWord
    rw [show fM_spelt 102 111 114 101 115 116 115 = some ((wForests : Nat) : Int) from by decide +kernel, bds, M_noWord _ h6 hn, bds]; exact zo0
theorem read_name {T R M : ZB} {u p : Nat} (hC : CsR R) (hL : Look T u p R M) : (∃ (v p' : Nat) (R' : ZB), fRd_nextToken T R = some R' ∧ fRd_isName R' = some 1 ∧ fM_isName M = some 1 ∧ R'.1 10 = (v : Int) ∧ M.1 10 = (v : Int) ∧ v < 10460353203 ∧ M.1 6 = 2 ∧ R'.1 7 = (p' : Int) ∧ M.1 4 = (p' : Int) ∧ p < p' ∧ p' ≤ u ∧ TR u p R' M ∧ FrR R R') ∨ (∃ R1 R' M', fRd_nextToken T R = some R1 ∧ fRd_isName R1 = some 0 ∧ fRd_fail R1 1 = some (0, R') ∧ fM_isName M = some 0 ∧ fM_bad M 1 = some (0, M') ∧ Fail R' M' ∧ FrR2 R R' ∧ FrM2 M M') := by
  obtain ⟨hpu, h7, hL0⟩ := hL
  obtain ⟨R1, n1, n2, n3⟩ := hL0 R h7
  obtain ⟨R', M', f1, f2, f3, f4, f5⟩ := fail_both n2 (a := 1) (by omega) (fun _ => rfl)
  have f1' : fRd_fail R1 1 = some (0, R') := f1
  have fl : zo 0 (some (0 : Int)) = some 0 := zo0
  have wrong : R1.1 8 ≠ 1 → M.1 6 ≠ 2 → nm (R1.1 8) = R1.1 8 → nm (M.1 6) = M.1 6 → (∃ R1 R' M', fRd_nextToken T R = some R1 ∧ fRd_isName R1 = some 0 ∧ fRd_fail R1 1 = some (0, R') ∧ fM_isName M = some 0 ∧ fM_bad M 1 = some (0, M') ∧ Fail R' M' ∧ FrR2 R R' ∧ FrM2 M M') := by
    intro h1 h2 h3 h4
    refine ⟨R1, R', M', n1, ?_, f1', ?_, f2, f3, FrR_tr n3 f4, f5⟩
    · unfold fRd_isName
      rw [kf1_e, kf0_e, h3, if_neg h1]; exact fl
    · unfold fM_isName
      rw [kf1_e, kf0_e, h4, if_neg h2]; exact zo0
  rcases n2.2 with ⟨v, p', h, h', c10, d10, cv, c1, c2, c3, c4⟩ | ⟨_, _, h, h', _⟩ | ⟨_, h, h', _⟩ | ⟨h, h', _⟩ | ⟨h, h', _⟩ | ⟨h, h'⟩
  · have k3 : R1.1 3 = ((wPoint : Nat) : Int) := by rw [n3.1 3 (by decide) (by decide) (by decide) (by decide)]; exact hC.1
    have k4 : R1.1 4 = ((wLine : Nat) : Int) := by rw [n3.1 4 (by decide) (by decide) (by decide) (by decide)]; exact hC.2.1
    have k5 : R1.1 5 = ((wForests : Nat) : Int) := by rw [n3.1 5 (by decide) (by decide) (by decide) (by decide)]; exact hC.2.2
    obtain ⟨w1, w2, w3⟩ := M_words h' d10 (by omega)
    have zc : ∀ w : Nat, w < 2 ^ 62 → (zlcmp (v : Int) (w : Int) = 0 ↔ v = w) := by
      intro w hw
      rw [zlc (by omega) hw]
      by_cases y : w < v
      · rw [if_pos y]; exact ⟨fun z => absurd z (by decide), fun z => by omega⟩
      · rw [if_neg y]
        by_cases y2 : v = w
        · rw [if_pos y2]; exact ⟨fun _ => y2, fun _ => rfl⟩
        · rw [if_neg y2]; exact ⟨fun z => absurd z (by decide), fun z => absurd z y2⟩
    have hP : wPoint < 2 ^ 62 := by decide
    have hLi : wLine < 2 ^ 62 := by decide
    have hF : wForests < 2 ^ 62 := by decide
    have bad : (v = wPoint ∨ v = wLine ∨ v = wForests) → (∃ R1 R' M', fRd_nextToken T R = some R1 ∧ fRd_isName R1 = some 0 ∧ fRd_fail R1 1 = some (0, R') ∧ fM_isName M = some 0 ∧ fM_bad M 1 = some (0, M') ∧ Fail R' M' ∧ FrR2 R R' ∧ FrM2 M M') := by
      intro hz
      refine ⟨R1, R', M', n1, ?_, f1', ?_, f2, f3, FrR_tr n3 f4, f5⟩
      · unfold fRd_isName
        rw [kf1_e, kf0_e, h, if_pos (by decide), c10, k3, k4, k5]
        by_cases y1 : v = wPoint
        · rw [if_pos ((zc _ hP).mpr y1)]; exact fl
        · rw [if_neg (fun z => y1 ((zc _ hP).mp z))]
          by_cases y2 : v = wLine
          · rw [if_pos ((zc _ hLi).mpr y2)]; exact fl
          · rw [if_neg (fun z => y2 ((zc _ hLi).mp z)), if_pos ((zc _ hF).mpr ((hz.resolve_left y1).resolve_left y2))]; exact fl
      · unfold fM_isName
        rw [kf1_e, kf0_e, h', if_pos (by decide), w1, bds]
        by_cases y1 : v = wPoint
        · rw [i10t y1]; exact zo0
        · rw [i10f y1, w2, bds]
          by_cases y2 : v = wLine
          · rw [i10t y2]; exact zo0
          · rw [i10f y2, w3, bds, i10t ((hz.resolve_left y1).resolve_left y2)]; exact zo0
    by_cases hz : v = wPoint ∨ v = wLine ∨ v = wForests
    · exact Or.inr (bad hz)
    · have y1 : ¬ v = wPoint := fun z => hz (Or.inl z)
      have y2 : ¬ v = wLine := fun z => hz (Or.inr (Or.inl z))
      have y3 : ¬ v = wForests := fun z => hz (Or.inr (Or.inr z))
      refine Or.inl ⟨v, p', R1, n1, ?_, ?_, c10, d10, cv, h', c1, c2, c3, c4, n2, n3⟩
      · unfold fRd_isName
        rw [kf1_e, kf0_e, h, if_pos (by decide), c10, k3, k4, k5, if_neg (fun z => y1 ((zc _ hP).mp z)), if_neg (fun z => y2 ((zc _ hLi).mp z)), if_neg (fun z => y3 ((zc _ hF).mp z))]; exact zo1
      · unfold fM_isName
        rw [kf1_e, kf0_e, h', if_pos (by decide), w1, bds, i10f y1, w2, bds, i10f y2, w3, bds, i10f y3]; exact zo1
  · exact Or.inr (wrong (by omega) (by omega) (by rw [h]; decide) (by rw [h']; decide))
  · exact Or.inr (wrong (by omega) (by omega) (by rw [h]; decide) (by rw [h']; decide))
  · exact Or.inr (wrong (by omega) (by omega) (by rw [h]; decide) (by rw [h']; decide))
  · exact Or.inr (wrong (by omega) (by omega) (by rw [h]; decide) (by rw [h']; decide))
  · exact Or.inr (wrong (by omega) (by omega) (by rw [h]; decide) (by rw [h']; decide))
