-- needs: 07zzz21.go
/-! net: the scanner's next token, the whole -/
theorem FrM_up {M R : ZB} (h : FrM M R) (i : Nat) (x : Int) (hi : i = 4 ∨ i = 5 ∨ i = 6 ∨ i = 7 ∨ i = 10) : FrM M (up R.1 i x, R.2) := by
  refine ⟨fun j i1 i2 i3 i4 i5 => ?_, h.2⟩
  show up R.1 i x j = _
  rw [up_n _ _ (by omega)]; exact h.1 j i1 i2 i3 i4 i5
theorem M_go {M : ZB} {u p : Nat} (hu : u ≤ 640) (hB : Byt (M.2 1) u) (h3 : M.1 3 = (u : Int)) (h4 : M.1 4 = (p : Int)) (hp : p ≤ u) : ∃ (q : Nat) (M' : ZB), fM_go M = some M' ∧ q ≤ u ∧ SkS (M.2 1) u p q ∧ NTm (M.2 1) u q M M' := by
  have main : wp (fM_go M) (fun M' => ∃ q, q ≤ u ∧ SkS (M.2 1) u p q ∧ NTm (M.2 1) u q M M') := by
    unfold fM_go
    refine lop1_w (fun (R : ZB) => ∃ q : Nat, R.1 4 = (q : Int) ∧ p ≤ q ∧ q ≤ u ∧ (∀ i, p ≤ i → i < q → Bl (M.2 1 i)) ∧ FrM M R) (fun (R : ZB) => u - (R.1 4).toNat) ?_ FU _ ⟨p, h4, by omega, hp, fun i h1 h2 => by omega, fun _ _ _ _ _ _ => rfl, rfl⟩ (by show u - _ < 100000; omega)
    intro rec R hI hrec
    obtain ⟨q, r4, hpq, hqu, hbl, hF⟩ := hI
    have r3 : R.1 3 = (u : Int) := by rw [hF.1 3 (by decide) (by decide) (by decide) (by decide) (by decide)]; exact h3
    have e21 : R.2 1 = M.2 1 := by rw [hF.2]
    refine kf0_w (fun k3 hk3 => ?_)
    have tail : (q < u → ¬ Bl (M.2 1 q)) → ∃ r, k3 = some r ∧ ∃ q, q ≤ u ∧ SkS (M.2 1) u p q ∧ NTm (M.2 1) u q M r := by
      intro hnb
      have hsk : SkS (M.2 1) u p q := ⟨hpq, Or.inl hqu, hbl, hnb⟩
      have hF5 : FrM M (up R.1 5 (R.1 4), R.2) := FrM_up hF 5 _ (by omega)
      have a5 : ((up R.1 5 (R.1 4), R.2) : ZB).1 5 = (q : Int) := (up_e R.1 5 _).trans r4
      have a4 : ((up R.1 5 (R.1 4), R.2) : ZB).1 4 = (q : Int) := r4
      rw [hk3, lt_e]
      clear hk3
      generalize ((up R.1 5 (R.1 4), R.2) : ZB) = R5 at hF5 a5 a4 ⊢
      have a3 : R5.1 3 = (u : Int) := by rw [hF5.1 3 (by decide) (by decide) (by decide) (by decide) (by decide)]; exact h3
      have a21 : R5.2 1 = M.2 1 := by rw [hF5.2]
      refine kf0_w (fun k5 hk5 => ?_)
      have main5 : ¬ (600 < u ∧ 600 ≤ q) → ∃ r, k5 = some r ∧ ∃ q, q ≤ u ∧ SkS (M.2 1) u p q ∧ NTm (M.2 1) u q M r := by
        intro hno
        rw [hk5, a4, a3, nmn (by omega), nmn (by omega)]
        by_cases hlt : q < u
        · have hb := hB q hlt
          rw [if_pos (by omega), rdn (by omega), a21, M_isLetter (by omega), bds]
          refine kf0_w (fun k8 hk8 => ?_)
          have run : An (M.2 1 q) → ∃ r, k8 = some r ∧ ∃ q, q ≤ u ∧ SkS (M.2 1) u p q ∧ NTm (M.2 1) u q M r := by
            intro han
            rw [hk8, bds, lt_e, lt_e]
            have hF10 : FrM M (up (up R5.1 10 0) 7 0, R5.2) := FrM_up (FrM_up hF5 10 0 (by omega)) 7 0 (by omega)
            obtain ⟨r, g1, g2, g3, k, g4, g5, g6, g7, g8⟩ := M_run (R0 := (up (up R5.1 10 0) 7 0, R5.2)) hu hB h3 hF10 a4 a5 (up_e (up R5.1 10 0) 7 0) (up_e R5.1 10 0) hlt
            exact ⟨r, g1, q, hqu, hsk, g2.1, g2.2, Or.inr ⟨hno, g3, Or.inr (Or.inr (Or.inr ⟨hlt, han, k, g4, g5, g6, g7, g8⟩))⟩⟩
          clear hk8
          by_cases hl : Le (M.2 1 q)
          · rw [i10t hl]; exact run (Or.inl hl)
          · rw [i10f hl, M_isDigit (by omega), bds]
            by_cases hd : Di (M.2 1 q)
            · rw [i10t hd]; exact run (Or.inr hd)
            · have hna : ¬ An (M.2 1 q) := fun z => z.elim hl hd
              rw [i10f hd, kf1_e, nmi (by omega)]
              by_cases h59 : M.2 1 q = 59
              · rw [if_pos h59]
                have f : FrM M (up (up R5.1 6 4) 4 (R5.1 4 + 1), R5.2) := FrM_up (FrM_up hF5 6 4 (by omega)) 4 _ (by omega)
                refine ⟨(up (up R5.1 6 4) 4 (R5.1 4 + 1), R5.2), ?_, q, hqu, hsk, f.1, f.2, Or.inr ⟨hno, a5, Or.inr (Or.inl ⟨hlt, h59, rfl, ?_⟩)⟩⟩
                · show some (up (up R5.1 6 4) 4 ((up R5.1 6 4) 4 + 1), R5.2) = _
                  rfl
                · show up (up R5.1 6 4) 4 (R5.1 4 + 1) 4 = _
                  rw [up_e, a4]; omega
              · rw [if_neg h59]
                have f : FrM M (up (up R5.1 6 1) 4 (R5.1 4 + 1), R5.2) := FrM_up (FrM_up hF5 6 1 (by omega)) 4 _ (by omega)
                exact ⟨(up (up R5.1 6 1) 4 (R5.1 4 + 1), R5.2), rfl, q, hqu, hsk, f.1, f.2, Or.inr ⟨hno, a5, Or.inr (Or.inr (Or.inl ⟨hlt, h59, hna, rfl⟩))⟩⟩
        · rw [if_neg (by omega), lt_e]
          have f : FrM M (up R5.1 6 0, R5.2) := FrM_up hF5 6 0 (by omega)
          exact ⟨_, rfl, q, hqu, hsk, f.1, f.2, Or.inr ⟨hno, a5, Or.inl ⟨by omega, up_e R5.1 6 0⟩⟩⟩
      clear hk5
      rw [a3, a5, nmn (by omega), nmn (by omega)]
      by_cases h6 : 600 < u
      · rw [if_pos (by omega)]
        by_cases hq6 : q < 600
        · rw [if_pos (by omega)]; exact main5 (fun z => by omega)
        · rw [if_neg (by omega), lt_e, lt_e]
          have f : FrM M (up (up R5.1 5 600) 6 1, R5.2) := FrM_up (FrM_up hF5 5 600 (by omega)) 6 1 (by omega)
          exact ⟨(up (up R5.1 5 600) 6 1, R5.2), rfl, q, hqu, hsk, f.1, f.2, Or.inl ⟨h6, by omega, rfl, rfl⟩⟩
      · rw [if_neg (by omega)]; exact main5 (fun z => h6 z.1)
    clear hk3
    rw [r4, r3, nmn (by omega), nmn (by omega)]
    by_cases hlt : q < u
    · have hb := hB q hlt
      rw [if_pos (by omega), rdn (by omega), e21]
      refine kf0_w (fun k47 hk47 => ?_)
      have next : Bl (M.2 1 q) → ∃ r, k47 = some r ∧ ∃ q, q ≤ u ∧ SkS (M.2 1) u p q ∧ NTm (M.2 1) u q M r := by
        intro h
        rw [hk47, lt_e]
        have e : up R.1 4 ((q : Int) + 1) 4 = ((q + 1 : Nat) : Int) := by rw [up_e]; omega
        refine hrec _ ⟨q+1, e, by omega, by omega, fun i h1 h2 => ?_, FrM_up hF 4 _ (by omega)⟩ ?_
        · by_cases e : i = q
          · subst e; exact h
          · exact hbl i h1 (by omega)
        · show u - (up R.1 4 ((q : Int) + 1) 4).toNat < u - (R.1 4).toNat
          rw [e, r4]; omega
      rw [nmi (show -2147483648 ≤ M.2 1 q ∧ M.2 1 q < 2147483648 by omega)]
      by_cases h1 : M.2 1 q = 32
      · rw [if_pos h1]; exact next (Or.inl h1)
      · rw [if_neg h1, rdn (by omega), nmi (show -2147483648 ≤ M.2 1 q ∧ M.2 1 q < 2147483648 by omega)]
        by_cases h2 : M.2 1 q = 10
        · rw [if_pos h2]; exact next (Or.inr h2)
        · rw [if_neg h2]; exact tail (fun _ z => z.elim h1 h2)
    · rw [if_neg (by omega)]; exact tail (fun z => absurd z hlt)
  obtain ⟨r, h1, q, h2⟩ := main
  exact ⟨q, r, h1, h2⟩
