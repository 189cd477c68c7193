-- needs: 07zzz23.same
/-! net: looking at a token, the small readers -/
theorem zlc {a b : Nat} (ha : a < 2 ^ 62) (hb : b < 2 ^ 62) : zlcmp (a : Int) (b : Int) = if b < a then 1 else if a = b then 0 else -1 := by
  unfold zlcmp
  rw [nl_eq (by omega) (by omega), nl_eq (by omega) (by omega)]
  by_cases h : b < a
  · rw [if_pos (by omega), if_pos h]
  · rw [if_neg (by omega), if_neg h]
    by_cases h2 : a = b
    · rw [if_pos (by omega), if_pos h2]
    · rw [if_neg (by omega), if_neg h2]
/-- the tape, the reader and the scanner stand at one place: the scanner has looked at the token already -/
def Tp (T : ZB) (u : Nat) (M : ZB) : Prop := u ≤ 640 ∧ T.1 1 = (u : Int) ∧ M.1 3 = (u : Int) ∧ Byt (T.2 0) u ∧ ∀ i, i < u → T.2 0 i = M.2 1 i
def FrR (R R' : ZB) : Prop := (∀ i, i ≠ 7 → i ≠ 8 → i ≠ 9 → i ≠ 10 → R'.1 i = R.1 i) ∧ R'.2 = R.2
def Look (T : ZB) (u p : Nat) (R M : ZB) : Prop := p ≤ u ∧ R.1 7 = (p : Int) ∧ ∀ R0 : ZB, R0.1 7 = (p : Int) → ∃ R', fRd_nextToken T R0 = some R' ∧ TR u p R' M ∧ FrR R0 R'
theorem Tp_fr {T M M' : ZB} {u : Nat} (h : Tp T u M) (hF : FrM M M') : Tp T u M' := by
  obtain ⟨h1, h2, h3, h4, h5⟩ := h
  refine ⟨h1, h2, ?_, h4, ?_⟩
  · rw [hF.1 3 (by decide) (by decide) (by decide) (by decide) (by decide)]; exact h3
  · rw [hF.2]; exact h5
theorem look_of {T R M : ZB} {u p : Nat} (h : Tp T u M) (hp : p ≤ u) (h7 : R.1 7 = (p : Int)) (h4 : M.1 4 = (p : Int)) : ∃ M', fM_go M = some M' ∧ Look T u p R M' ∧ FrM M M' := by
  obtain ⟨h1, h2, h3, hB, h5⟩ := h
  have hB' : Byt (M.2 1) u := fun i hi => by rw [← h5 i hi]; exact hB i hi
  obtain ⟨qr, M', b1, b2, b3, b4⟩ := M_go h1 hB' h3 h4 hp
  refine ⟨M', b1, ⟨hp, h7, fun R0 h7' => ?_⟩, b4.1, b4.2.1⟩
  obtain ⟨qc, R', a1, a2, a3⟩ := Rd_next h2 h1 hB h7' hp
  exact ⟨R', a1, same_tok h1 hp h5 a2 b3 b2 a3 b4, a3.1, a3.2.1⟩
/-- both have failed in the same way -/
def Fail (R M : ZB) : Prop := ∃ f pl : Nat, 1 ≤ f ∧ f ≤ 4 ∧ pl ≤ 600 ∧ R.1 11 = (f : Int) ∧ M.1 8 = (f : Int) ∧ R.1 12 = (pl : Int) ∧ M.1 9 = (pl : Int)
def FrR2 (R R' : ZB) : Prop := (∀ i, i ≠ 7 → i ≠ 8 → i ≠ 9 → i ≠ 10 → i ≠ 11 → i ≠ 12 → R'.1 i = R.1 i) ∧ R'.2 = R.2
def FrM2 (M M' : ZB) : Prop := (∀ i, i ≠ 4 → i ≠ 5 → i ≠ 6 → i ≠ 7 → i ≠ 8 → i ≠ 9 → i ≠ 10 → i ≠ 11 → M'.1 i = M.1 i) ∧ M'.2 = M.2
theorem FrM_2 {M M' : ZB} (h : FrM M M') : FrM2 M M' := ⟨fun i h1 h2 h3 h4 _ _ h7 _ => h.1 i h1 h2 h3 h4 h7, h.2⟩
theorem FrR_2 {R R' : ZB} (h : FrR R R') : FrR2 R R' := ⟨fun i h1 h2 h3 h4 _ _ => h.1 i h1 h2 h3 h4, h.2⟩
/-- a wrong token where the reader says a1: both fail the same -/
theorem fail_both {R M : ZB} {u p a : Nat} (hT : TR u p R M) (ha : 1 ≤ a ∧ a ≤ 4) (hk : M.1 6 = 1 → a = 1) : ∃ R' M', fRd_fail R (a : Int) = some (0, R') ∧ fM_bad M (a : Int) = some (0, M') ∧ Fail R' M' ∧ FrR2 R R' ∧ FrM2 M M' := by
  obtain ⟨⟨pl, q1, q2, q3⟩, hcase⟩ := hT
  have hk6 : nm (M.1 6) = M.1 6 := by
    rcases hcase with ⟨_, _, _, h, _⟩ | ⟨_, _, _, h, _⟩ | ⟨_, _, h, _⟩ | ⟨_, h, _⟩ | ⟨_, h, _⟩ | ⟨_, h⟩ <;> (rw [h]; decide)
  refine ⟨(up (up R.1 11 (a : Int)) 12 (R.1 9), R.2), (up (up M.1 8 (a : Int)) 9 (M.1 5), M.2), ?_, ?_, ⟨a, pl, ha.1, ha.2, q3, rfl, rfl, ?_, ?_⟩, ⟨fun i h1 h2 h3 h4 h5 h6 => ?_, rfl⟩, ⟨fun i h1 h2 h3 h4 h5 h6 h7 h8 => ?_, rfl⟩⟩
  · rfl
  · unfold fM_bad
    rw [kf1_e, hk6]
    by_cases h : M.1 6 = 1
    · rw [if_pos h, hk h]; rfl
    · rw [if_neg h]; rfl
  · exact (up_e (up R.1 11 (a : Int)) 12 (R.1 9)).trans q1
  · exact (up_e (up M.1 8 (a : Int)) 9 (M.1 5)).trans q2
  · show up (up R.1 11 _) 12 _ i = _
    rw [up_n _ _ h6, up_n _ _ h5]
  · show up (up M.1 8 _) 9 _ i = _
    rw [up_n _ _ h6, up_n _ _ h5]
/-- the sign at a row's end -/
theorem read_sign {T R M : ZB} {u p : Nat} (hp : Tp T u M) (hL : Look T u p R M) : (∃ (p' : Nat) (R' M' : ZB), fRd_readSign T R = some (1, R') ∧ fM_readEnd M = some (1, M') ∧ p < p' ∧ Look T u p' R' M' ∧ FrR R R' ∧ FrM M M') ∨ (∃ R' M', fRd_readSign T R = some (0, R') ∧ fM_readEnd M = some (0, M') ∧ Fail R' M' ∧ FrR2 R R' ∧ FrM2 M M') := by
  obtain ⟨hpu, h7, hL0⟩ := hL
  obtain ⟨R1, n1, n2, n3⟩ := hL0 R h7
  have wrong : R1.1 8 ≠ 3 → M.1 6 ≠ 4 → nm (R1.1 8) = R1.1 8 → nm (M.1 6) = M.1 6 → (∃ R' M', fRd_readSign T R = some (0, R') ∧ fM_readEnd M = some (0, M') ∧ Fail R' M' ∧ FrR2 R R' ∧ FrM2 M M') := by
    intro h1 h2 h3 h4
    obtain ⟨R', M', f1, f2, f3, f4, f5⟩ := fail_both n2 (a := 1) (by omega) (fun _ => rfl)
    refine ⟨R', M', ?_, ?_, f3, ⟨fun i a b c d e f => by rw [f4.1 i a b c d e f]; exact n3.1 i a b c d, by rw [f4.2]; exact n3.2⟩, f5⟩
    · unfold fRd_readSign
      rw [n1, bds, kf2_e, h3, if_neg h1]
      show bd (fRd_fail R1 ((1 : Nat) : Int)) _ = _
      rw [f1, bds]; exact zo0
    · unfold fM_readEnd
      rw [h4, if_neg h2]
      show bd (fM_bad M ((1 : Nat) : Int)) _ = _
      rw [f2, bds]; exact zo0
  have hc := n2.2
  rcases hc with ⟨_, _, h, h', _⟩ | ⟨_, _, h, h', _⟩ | ⟨p', h, h', c1, c2, c3, c4⟩ | ⟨h, h', _⟩ | ⟨h, h', _⟩ | ⟨h, h'⟩
  · exact Or.inr (wrong (by omega) (by omega) (by rw [h]; decide) (by rw [h']; decide))
  · exact Or.inr (wrong (by omega) (by omega) (by rw [h]; decide) (by rw [h']; decide))
  · obtain ⟨M', g1, g2, g3⟩ := look_of (R := R1) hp c4 c1 c2
    refine Or.inl ⟨p', R1, M', ?_, ?_, c3, g2, n3, g3⟩
    · unfold fRd_readSign
      rw [n1, bds, kf2_e, h, if_pos (by decide)]; exact zo1
    · unfold fM_readEnd
      rw [h', if_pos (by decide), g1, bds]
  · exact Or.inr (wrong (by omega) (by omega) (by rw [h]; decide) (by rw [h']; decide))
  · exact Or.inr (wrong (by omega) (by omega) (by rw [h]; decide) (by rw [h']; decide))
  · exact Or.inr (wrong (by omega) (by omega) (by rw [h]; decide) (by rw [h']; decide))
